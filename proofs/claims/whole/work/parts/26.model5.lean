/-! The reference: turning, the frame, reading. -/
def SN (f : Nat → Int32) (D : Nat → Nat → Bool) : Prop := BA f 324 (fun k => D (k % 18) (k / 18))
theorem SN.congr {f : Nat → Int32} {D D' : Nat → Nat → Bool} (h : SN f D) (he : ∀ x y, x < 18 → y < 18 → D x y = D' x y) : SN f D' := fun k hk => by
  show f k = nI (D' (k % 18) (k / 18)).toNat
  rw [← he _ _ (by omega) (by omega)]
  exact h k hk
theorem S_M_turn {D : Nat → Nat → Bool} {h : jxH} (hD : SN (h 24 0) D) : jx_MW 40 [jR 20 0] h (fun _ h' => ∃ g f, h' = jx_st (jx_st h 25 0 g) 24 0 f ∧ SN f (tu 1 D)) := by
  refine jx_MW_by [some (jR 20 0), none] (by decide) rfl (Nat.le_of_ble_eq_true rfl) (fun V rule => ?_)
  have loop2 := fun (g : Nat → Int32) (hg : SN g (tu 1 D)) => jl_up (P := fun i => ∀ f : Nat → Int32, (∀ k, k < i → f k = g k) → V 43 [some (jR 20 0), some (jI (nI i))] [] (jx_st (jx_st h 25 0 g) 24 0 f)) 324
    (by
      intro f hf
      refine rule (fun _ => false) 10 43 _ _ _ ?_
      refine pk_le 324 324 (fun _ => ?_) (fun q => absurd q (Nat.lt_irrefl _))
      exact Exists.intro g (Exists.intro f (And.intro rfl (fun k hk => (hf k hk).trans (hg k hk)))))
    (fun i hi ih => by
      intro f hf
      refine rule (Nat.beq 43) 20 43 _ _ _ ?_
      refine pk_le 324 i (fun q => absurd q (by omega)) (fun _ => ?_)
      refine Exists.intro i (And.intro (And.intro hi rfl) ?_)
      have ev : g i = nI (tu 1 D (i % 18) (i / 18)).toNat := hg i hi
      refine Exists.intro i (And.intro (And.intro hi (And.intro rfl ?_)) ?_)
      · show g i = nI 0 ∨ g i = nI 1
        rw [ev]
        exact b01 _
      · refine jv_to (V := V) (ih (upd f i (g i)) (fun k hk => ?_)) (by rw [nI_add]) rfl (by rw [jx_st_same, jx_st_st]; rfl)
        by_cases hki : k = i
        · subst hki; exact upd_same _ _ _
        · rw [upd_ne _ _ hki]; exact hf k (by omega))
  have loop1 := jl_up (P := fun i => ∀ g : Nat → Int32, (∀ k, k < i → g (18 * (k % 18) + 17 - k / 18) = nI (D (k % 18) (k / 18)).toNat) → V 2 [some (jR 20 0), some (jI (nI i))] [] (jx_st h 25 0 g)) 324
    (by
      intro g hg
      refine rule (Nat.beq 43) 10 2 _ _ _ ?_
      refine pk_le 324 324 (fun _ => ?_) (fun q => absurd q (Nat.lt_irrefl _))
      have hgn : SN g (tu 1 D) := fun k hk => by
        have := hg (18 * (17 - k % 18) + k / 18) (by omega)
        rw [show 18 * ((18 * (17 - k % 18) + k / 18) % 18) + 17 - (18 * (17 - k % 18) + k / 18) / 18 = k by omega, show (18 * (17 - k % 18) + k / 18) % 18 = k / 18 by omega, show (18 * (17 - k % 18) + k / 18) / 18 = 17 - k % 18 by omega] at this
        exact this
      exact jv_to (V := V) (loop2 g hgn 0 (Nat.zero_le _) (h 24 0) (fun k hk => absurd hk (Nat.not_lt_zero _))) rfl rfl (jx_st_id (jx_st h 25 0 g) 24 0).symm)
    (fun i hi ih => by
      intro g hg
      refine rule (Nat.beq 2) 30 2 _ _ _ ?_
      refine pk_le 324 i (fun q => absurd q (by omega)) (fun _ => ?_)
      refine And.intro (by decide) ?_
      refine And.intro (by decide) ?_
      have ei : nI 18 * (nI i - nI i / nI 18 * nI 18) + nI 17 - nI i / nI 18 = nI (18 * (i % 18) + 17 - i / 18) := by
        rw [jn_rem (by omega) (by decide) (by decide), pk_mul, nI_add, pk_div (by omega) (by decide) (by decide), pk_sub (by omega)]
      refine Exists.intro i (And.intro (And.intro hi rfl) ?_)
      have ev : h 24 0 i = nI (D (i % 18) (i / 18)).toNat := hD i hi
      refine Exists.intro (18 * (i % 18) + 17 - i / 18) (And.intro (And.intro (by omega) (And.intro ei ?_)) ?_)
      · show h 24 0 i = nI 0 ∨ h 24 0 i = nI 1
        rw [ev]
        exact b01 _
      · refine jv_to (V := V) (ih (upd g (18 * (i % 18) + 17 - i / 18) (h 24 0 i)) (fun k hk => ?_)) (by rw [nI_add]) rfl (by rw [jx_st_same, jx_st_st]; rfl)
        by_cases hki : k = i
        · subst hki; rw [upd_same]; exact ev
        · rw [upd_ne _ _ (by omega)]; exact hg k (by omega))
  refine rule (Nat.beq 2) 10 0 _ _ _ ?_
  exact jv_to (V := V) (loop1 0 (Nat.zero_le _) (h 25 0) (fun k hk => absurd hk (Nat.not_lt_zero _))) rfl rfl (jx_st_id h 25 0).symm
def fe1 (D : Nat → Nat → Bool) (k : Nat) : Nat := if edge (k % 18) (k / 18) = true then ff D (k % 18) (k / 18) else 0
theorem sm_row (f : Nat → Nat) (a : Nat) : ∀ n, sm f 0 (a + n) = sm f 0 a + sm (fun x => f (a + x)) 0 n
  | 0 => rfl
  | n + 1 => by
    show sm f 0 (a + n) + f (0 + (a + n)) = sm f 0 a + (sm (fun x => f (a + x)) 0 n + f (a + (0 + n)))
    rw [sm_row f a n, Nat.zero_add, Nat.zero_add, Nat.add_assoc]
theorem fe1_row (D : Nat → Nat → Bool) (y : Nat) (hy : 0 < y) (hy9 : y < 17) : sm (fun x => fe1 D (18 * y + x)) 0 18 = ff D 0 y + ff D 17 y := by
  have key : ∀ x, x < 18 → fe1 D (18 * y + x) = if x = 0 ∨ x = 17 then ff D x y else 0 := by
    intro x hx
    rw [fe1, show (18 * y + x) % 18 = x by omega, show (18 * y + x) / 18 = y by omega]
    refine if_iff ?_
    simp only [edge, Bool.or_eq_true, decide_eq_true_eq]
    omega
  rw [sm_congr (g := fun x => if x = 0 ∨ x = 17 then ff D x y else 0) (fun k _ hk => key k (by omega))]
  simp [sm]
theorem fe1_all (D : Nat → Nat → Bool) (y : Nat) (hy : y = 0 ∨ y = 17) : sm (fun x => fe1 D (18 * y + x)) 0 18 = sm (fun x => ff D x y) 0 18 := by
  refine sm_congr (fun k _ hk => ?_)
  show fe1 D (18 * y + k) = _
  rw [fe1, show (18 * y + k) % 18 = k by omega, show (18 * y + k) / 18 = y by omega, if_pos]
  simp only [edge, Bool.or_eq_true, decide_eq_true_eq]
  omega
theorem fe1_fts (D : Nat → Nat → Bool) : sm (fe1 D) 0 324 = fts D 17 := by
  rw [show 324 = 18 * 17 + 18 from rfl, sm_row, fe1_all D 17 (Or.inr rfl)]
  rw [show 18 * 17 = 18 * 16 + 18 from rfl, sm_row, fe1_row D 16 (by decide) (by decide)]
  rw [show 18 * 16 = 18 * 15 + 18 from rfl, sm_row, fe1_row D 15 (by decide) (by decide)]
  rw [show 18 * 15 = 18 * 14 + 18 from rfl, sm_row, fe1_row D 14 (by decide) (by decide)]
  rw [show 18 * 14 = 18 * 13 + 18 from rfl, sm_row, fe1_row D 13 (by decide) (by decide)]
  rw [show 18 * 13 = 18 * 12 + 18 from rfl, sm_row, fe1_row D 12 (by decide) (by decide)]
  rw [show 18 * 12 = 18 * 11 + 18 from rfl, sm_row, fe1_row D 11 (by decide) (by decide)]
  rw [show 18 * 11 = 18 * 10 + 18 from rfl, sm_row, fe1_row D 10 (by decide) (by decide)]
  rw [show 18 * 10 = 18 * 9 + 18 from rfl, sm_row, fe1_row D 9 (by decide) (by decide)]
  rw [show 18 * 9 = 18 * 8 + 18 from rfl, sm_row, fe1_row D 8 (by decide) (by decide)]
  rw [show 18 * 8 = 18 * 7 + 18 from rfl, sm_row, fe1_row D 7 (by decide) (by decide)]
  rw [show 18 * 7 = 18 * 6 + 18 from rfl, sm_row, fe1_row D 6 (by decide) (by decide)]
  rw [show 18 * 6 = 18 * 5 + 18 from rfl, sm_row, fe1_row D 5 (by decide) (by decide)]
  rw [show 18 * 5 = 18 * 4 + 18 from rfl, sm_row, fe1_row D 4 (by decide) (by decide)]
  rw [show 18 * 4 = 18 * 3 + 18 from rfl, sm_row, fe1_row D 3 (by decide) (by decide)]
  rw [show 18 * 3 = 18 * 2 + 18 from rfl, sm_row, fe1_row D 2 (by decide) (by decide)]
  rw [show 18 * 2 = 18 * 1 + 18 from rfl, sm_row, fe1_row D 1 (by decide) (by decide)]
  rw [show 18 * 1 = 18 * 0 + 18 from rfl, sm_row, fe1_all D 0 (Or.inl rfl)]
  simp only [sm, fts]
  simp
  omega
