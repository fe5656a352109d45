/-! Sheet: symbols in blocks. -/
def bX (b : Nat) : Nat := 1 + 2 * (b % 8)
def bY (b : Nat) : Nat := 1 + 2 * (b / 8)
def inB (bl a b : Nat) : Prop := bX bl ≤ a ∧ a < bX bl + 2 ∧ bY bl ≤ b ∧ b < bY bl + 2
/-- the symbol s drawn into the block bl -/
noncomputable def bD (D : Nat → Nat → Bool) (bl s : Nat) : Nat → Nat → Bool := fun a b => if bX bl ≤ a ∧ a < bX bl + 2 ∧ bY bl ≤ b ∧ b < bY bl + 2 then s.testBit (a - bX bl + 2 * (b - bY bl)) else D a b
theorem S_Sheet_drawSymbol {p bl s : Nat} {D : Nat → Nat → Bool} {h : jxH} (hL : LN (h 4 p) D) (hb : bl < 64) (hs : s < 16) : jx_MW 80 [jR 3 p, jI (nI bl), jI (nI s)] h (fun _ h' => ∃ f, h' = jx_st h 4 p f ∧ LN f (bD D bl s)) := by
  refine jx_MW_by [some (jR 3 p), some (jI (nI bl)), some (jI (nI s)), none, none, none] (by decide) rfl (Nat.le_of_ble_eq_true rfl) (fun V rule => ?_)
  have hx : bX bl ≤ 15 := by unfold bX; omega
  have hy : bY bl ≤ 15 := by unfold bY; omega
  have loop := jl_up (P := fun i => ∀ f : Nat → Int32, LN f (fun a b => if (bX bl ≤ a ∧ a < bX bl + 2 ∧ bY bl ≤ b ∧ b < bY bl + 2) ∧ a - bX bl + 2 * (b - bY bl) < i then s.testBit (a - bX bl + 2 * (b - bY bl)) else D a b) → V 14 [some (jR 3 p), some (jI (nI bl)), some (jI (nI s)), some (jI (nI (bX bl))), some (jI (nI (bY bl))), some (jI (nI i))] [] (jx_st h 4 p f)) 4
    (by
      intro f hf
      refine rule (fun _ => false) 10 14 _ _ _ ?_
      refine pk_le 4 4 (fun _ => ?_) (fun q => absurd q (Nat.lt_irrefl _))
      refine Exists.intro f (And.intro rfl (hf.congr (fun a b ha hb => ?_)))
      unfold bD
      exact if_iff ⟨fun q => q.1, fun q => ⟨q, by omega⟩⟩)
    (fun i hi ih => by
      intro f hf
      refine rule (Nat.beq 14) 60 14 _ _ _ ?_
      refine pk_le 4 i (fun q => absurd q (by omega)) (fun _ => ?_)
      refine And.intro (by decide) ?_
      refine And.intro (by decide) ?_
      refine And.intro (by decide) ?_
      refine And.intro (by decide) ?_
      have er : nI i - nI i / nI 2 * nI 2 = nI (i % 2) := jn_rem (by omega) (by decide) (by decide)
      have ed : nI i / nI 2 = nI (i / 2) := pk_div (by omega) (by decide) (by decide)
      have fin : ∀ c : Bool, s.testBit i = c → jx_MW 51 [jR 3 p, jI (nI (bX bl) + (nI i - nI i / nI 2 * nI 2)), jI (nI (bY bl) + nI i / nI 2), jI (nI (bX bl) + (nI i - nI i / nI 2 * nI 2) + nI 1), jI (nI (bY bl) + nI i / nI 2 + nI 1), jI (nI c.toNat)] (jx_st h 4 p f) (fun _ h' => V 14 [some (jR 3 p), some (jI (nI bl)), some (jI (nI s)), some (jI (nI (bX bl))), some (jI (nI (bY bl))), some (jI (nI i + nI 1))] [] h') := by
        intro c hc
        refine jx_cal (S_Sheet_paint (l := bX bl + i % 2) (t := bY bl + i / 2) (r := bX bl + i % 2 + 1) (b := bY bl + i / 2 + 1) (hf.st h p) (by omega) (by omega) (by omega) (by omega)) (by rw [er, ed, nI_add, nI_add, nI_add, nI_add]) (fun q h2 hq => ?_)
        obtain ⟨-, f2, rfl, hf2⟩ := hq
        refine jv_to (V := V) (ih f2 (hf2.congr (fun a b ha hb => ?_))) (by rw [nI_add]) rfl (by rw [jx_st_st])
        unfold pD
        by_cases c1 : bX bl + i % 2 ≤ a ∧ a < bX bl + i % 2 + 1 ∧ bY bl + i / 2 ≤ b ∧ b < bY bl + i / 2 + 1
        · have e1 : a - bX bl + 2 * (b - bY bl) = i := by omega
          rw [if_pos c1, if_pos ⟨by omega, by omega⟩, e1, hc]
        · rw [if_neg c1]
          exact if_iff ⟨fun q => ⟨q.1, by omega⟩, fun q => ⟨q.1, by omega⟩⟩
      have et : s.testBit i = decide (s / 2 ^ i % 2 = 1) := tb_div s i
      refine pk_eq (s / 2 ^ i % 2) 1 (fun q => ?_) (fun q => ?_) (by rw [jn_shr (by omega) (by omega), jn_and, Nat.and_one_is_mod]) rfl
      · exact fin true (by rw [et]; simp [q])
      · exact fin false (by rw [et]; simp [q]))
  refine rule (Nat.beq 14) 20 0 _ _ _ ?_
  refine jx_cal (S_Sheet_blockX (b := bl) (by omega)) rfl (fun q h' hq => ?_)
  obtain ⟨rfl, rfl⟩ := hq
  refine jx_cal (S_Sheet_blockY (b := bl) (by omega)) rfl (fun q h' hq => ?_)
  obtain ⟨rfl, rfl⟩ := hq
  refine jv_to (V := V) (loop 0 (Nat.zero_le _) (h' 4 p) (hL.congr (fun a b ha hb => ?_))) rfl rfl (jx_st_id h' 4 p).symm
  rw [if_neg (fun q => absurd q.2 (Nat.not_lt_zero _))]
/-- the number of the bits g 0, g 1 .. -/
def sv (g : Nat → Bool) : Nat → Nat
  | 0 => 0
  | n + 1 => if g n = true then sv g n ||| 2 ^ n else sv g n
theorem sv_lt (g : Nat → Bool) : ∀ n, sv g n < 2 ^ n
  | 0 => Nat.succ_pos 0
  | n + 1 => by
    have h1 := sv_lt g n
    have h2 : 2 ^ n < 2 ^ (n + 1) := Nat.pow_lt_pow_right (by decide) (Nat.lt_succ_self n)
    unfold sv
    split
    · exact Nat.or_lt_two_pow (Nat.lt_trans h1 h2) h2
    · exact Nat.lt_trans h1 h2
theorem S_Sheet_symbolAt {p bl t : Nat} {D : Nat → Nat → Bool} {h : jxH} (hL : LN (h 4 p) D) (hb : bl < 64) (ht : t < 4) : jx_MW 82 [jR 3 p, jI (nI bl), jI (nI t)] h (fun r h' => r = nI (sv (fun k => tu t D (bX bl + k % 2) (bY bl + k / 2)) 4) ∧ h' = h) := by
  refine jx_MW_by [some (jR 3 p), some (jI (nI bl)), some (jI (nI t)), none, none, none, none] (by decide) rfl (Nat.le_of_ble_eq_true rfl) (fun V rule => ?_)
  have hx : bX bl ≤ 15 := by unfold bX; omega
  have hy : bY bl ≤ 15 := by unfold bY; omega
  have loop := jl_up (P := fun i => V 17 [some (jR 3 p), some (jI (nI bl)), some (jI (nI t)), some (jI (nI (bX bl))), some (jI (nI (bY bl))), some (jI (nI (sv (fun k => tu t D (bX bl + k % 2) (bY bl + k / 2)) i))), some (jI (nI i))] [] h) 4
    (by
      refine rule (fun _ => false) 10 17 _ _ _ ?_
      refine pk_le 4 4 (fun _ => ?_) (fun q => absurd q (Nat.lt_irrefl _))
      exact And.intro rfl rfl)
    (fun i hi ih => by
      refine rule (Nat.beq 17) 60 17 _ _ _ ?_
      refine pk_le 4 i (fun q => absurd q (by omega)) (fun _ => ?_)
      refine And.intro (by decide) ?_
      refine And.intro (by decide) ?_
      have er : nI i - nI i / nI 2 * nI 2 = nI (i % 2) := jn_rem (by omega) (by decide) (by decide)
      have ed : nI i / nI 2 = nI (i / 2) := pk_div (by omega) (by decide) (by decide)
      refine jx_cal (S_Sheet_isBlackTurned (x := bX bl + i % 2) (y := bY bl + i / 2) hL (by omega) (by omega) ht) (by rw [er, ed, nI_add, nI_add]) (fun q h2 hq => ?_)
      obtain ⟨rfl, rfl⟩ := hq
      have hpw : 2 ^ i ≤ 2 ^ 4 := Nat.pow_le_pow_right (by decide) (by omega)
      refine pk_eq (tu t D (bX bl + i % 2) (bY bl + i / 2)).toNat 0 (fun q => ?_) (fun q => ?_) rfl rfl (by have := toNat_le (tu t D (bX bl + i % 2) (bY bl + i / 2)); omega) (by decide)
      · have e0 : tu t D (bX bl + i % 2) (bY bl + i / 2) = false := by cases hd : tu t D (bX bl + i % 2) (bY bl + i / 2) with
          | false => rfl
          | true => rw [hd] at q; cases q
        exact jv_to (V := V) ih (by rw [nI_add, sv, e0]; rfl) rfl rfl
      · have e0 : tu t D (bX bl + i % 2) (bY bl + i / 2) = true := by cases hd : tu t D (bX bl + i % 2) (bY bl + i / 2) with
          | true => rfl
          | false => rw [hd] at q; exact absurd rfl q
        exact jv_to (V := V) ih (by rw [nI_add, jn_shl (by omega) (by rw [Nat.one_mul]; omega), jn_or, Nat.one_mul, sv, e0]; rfl) rfl rfl)
  refine rule (Nat.beq 17) 20 0 _ _ _ ?_
  refine jx_cal (S_Sheet_blockX (b := bl) (by omega)) rfl (fun q h' hq => ?_)
  obtain ⟨rfl, rfl⟩ := hq
  refine jx_cal (S_Sheet_blockY (b := bl) (by omega)) rfl (fun q h' hq => ?_)
  obtain ⟨rfl, rfl⟩ := hq
  exact loop 0 (Nat.zero_le _)
