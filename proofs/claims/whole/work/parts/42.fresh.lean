/-! The heap behind the constructors. -/
def h00 : jxH := fun k _ j => if k = 23 then nI (gf_pw j) else if k = 13 then -nI 2 else if k = 29 then -nI 2 else nI 0
theorem h00_0 {k : Nat} (h1 : k ≠ 23) (h2 : k ≠ 13) (h3 : k ≠ 29) (i j : Nat) : h00 k i j = nI 0 := by
  unfold h00
  rw [if_neg h1, if_neg h2, if_neg h3]
theorem REL_0 : REL h00 := by
  have Z : ∀ k, k ≠ 23 → k ≠ 13 → k ≠ 29 → ∀ i j, h00 k i j = nI 0 := fun k h1 h2 h3 i j => h00_0 h1 h2 h3 i j
  refine ⟨0, fun _ => 0, 0, fun _ _ _ => false, 0, 0, 0, fun _ => false, fun _ _ => 0, 0, ?_, ?_, ?_, ?_, ?_, ?_, ?_, ?_⟩
  · exact ⟨rfl, rfl, by decide, fun j _ => ⟨rfl, Nat.succ_pos 255⟩, fun j _ => ⟨rfl, Nat.succ_pos 255⟩⟩
  · exact ⟨rfl, rfl, by decide, fun p _ y _ => ⟨0, by decide, rfl, fun x _ => Nat.zero_testBit x⟩, fun p _ x y _ _ => rfl⟩
  · exact fun r _ => rfl
  · exact ⟨rfl, rfl, rfl, rfl, rfl, rfl, fun _ _ => rfl, fun _ _ => rfl⟩
  · exact ⟨by decide, by decide, fun _ _ _ => rfl, fun z => absurd z (Nat.lt_irrefl _)⟩
  · exact ⟨fun p _ j _ => ⟨rfl, Nat.succ_pos 15⟩, fun p _ m _ => ⟨rfl, Nat.succ_pos 15⟩⟩
  · exact ⟨rfl, rfl, by decide, fun i hi => absurd hi (Nat.not_lt_zero _)⟩
  · exact ⟨fun j _ => ⟨rfl, gf_pw_lt j⟩, ⟨fun _ => 0, fun j _ => ⟨rfl, Nat.succ_pos 15⟩⟩, ⟨fun _ => 0, fun j _ => ⟨rfl, Nat.succ_pos 15⟩⟩⟩
