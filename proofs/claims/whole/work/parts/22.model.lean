/-! The reference: its field, its small calls. -/
def mp9 (a b : Nat) : Nat → Nat
  | 0 => 0
  | k + 1 => mp9 a b k ^^^ (if b / 2 ^ k % 2 = 1 then a * 2 ^ k else 0)
def mr9 (p : Nat) : Nat → Nat
  | 0 => p
  | n + 1 => if mr9 p n / 2 ^ (6 - n) % 2 = 1 then mr9 p n ^^^ (19 * 2 ^ (2 - n)) else mr9 p n
theorem mr9_ml : ∀ a, a < 16 → ∀ b, b < 16 → mr9 (mp9 a b 4) 3 = gf_ml a b := by decide +kernel
theorem mr9_lt : ∀ a, a < 16 → ∀ b, b < 16 → ∀ n, n < 4 → mr9 (mp9 a b 4) n < 128 := by decide +kernel
theorem S_M_product {a b : Nat} {h : jxH} (ha : a < 16) (hb : b < 16) : jx_MW 35 [jR 20 0, jI (nI a), jI (nI b)] h (fun r h' => r = nI (gf_ml a b) ∧ h' = h) := by
  refine jx_MW_by [some (jR 20 0), some (jI (nI a)), some (jI (nI b)), none, none] (by decide) rfl (Nat.le_of_ble_eq_true rfl) (fun V rule => ?_)
  have loop2 := jl_up (P := fun n => V 42 [some (jR 20 0), some (jI (nI a)), some (jI (nI b)), some (jI (nI (mr9 (mp9 a b 4) n))), some (jI (nI (6 - n)))] [] h) 3
    (by
      refine rule (fun _ => false) 10 42 _ _ _ ?_
      refine pk_le 3 3 (fun _ => ?_) (fun q => absurd q (Nat.lt_irrefl _))
      exact And.intro (by rw [mr9_ml a ha b hb]) rfl)
    (fun n hn ih => by
      refine rule (Nat.beq 42) 40 42 _ _ _ ?_
      refine pk_le (6 - n) 3 (fun q => absurd q (by omega)) (fun _ => ?_)
      have hl := mr9_lt a ha b hb n (by omega)
      refine pk_eq (mr9 (mp9 a b 4) n / 2 ^ (6 - n) % 2) 1 (fun q => ?_) (fun q => ?_) (by rw [jn_shr (by omega) (by omega), jn_and, Nat.and_one_is_mod]) rfl
      · have hp : 2 ^ (2 - n) ≤ 2 ^ 2 := Nat.pow_le_pow_right (by decide) (by omega)
        have e : nI 19 <<< (nI (6 - n) - nI 4 &&& 31) = nI (19 * 2 ^ (2 - n)) := by
          rw [pk_sub (by omega), show 6 - n - 4 = 2 - n by omega, jn_shl (by omega) (by omega)]
        exact jv_to (V := V) ih (by rw [e, jn_xor, jn_dec (by omega), show 6 - n - 1 = 6 - (n + 1) by omega, mr9, if_pos q]) rfl rfl
      · exact jv_to (V := V) ih (by rw [jn_dec (by omega), show 6 - n - 1 = 6 - (n + 1) by omega, mr9, if_neg q]) rfl rfl)
  have loop1 := jl_up (P := fun k => V 5 [some (jR 20 0), some (jI (nI a)), some (jI (nI b)), some (jI (nI (mp9 a b k))), some (jI (nI k))] [] h) 4
    (by
      refine rule (Nat.beq 42) 10 5 _ _ _ ?_
      refine pk_le 4 4 (fun _ => ?_) (fun q => absurd q (Nat.lt_irrefl _))
      exact loop2 0 (Nat.zero_le _))
    (fun k hk ih => by
      refine rule (Nat.beq 5) 40 5 _ _ _ ?_
      refine pk_le 4 k (fun q => absurd q (by omega)) (fun _ => ?_)
      refine pk_eq (b / 2 ^ k % 2) 1 (fun q => ?_) (fun q => ?_) (by rw [jn_shr (by omega) (by omega), jn_and, Nat.and_one_is_mod]) rfl
      · have hp : 2 ^ k ≤ 2 ^ 4 := Nat.pow_le_pow_right (by decide) (by omega)
        have hp2 : a * 2 ^ k ≤ 15 * 2 ^ 4 := Nat.mul_le_mul (by omega) hp
        exact jv_to (V := V) ih (by rw [jn_shl (by omega) (by omega), jn_xor, nI_add, mp9, if_pos q]) rfl rfl
      · exact jv_to (V := V) ih (by rw [show nI (mp9 a b k) ^^^ nI 0 = nI (mp9 a b k ^^^ 0) from jn_xor _ _, nI_add, mp9, if_neg q]) rfl rfl)
  refine rule (Nat.beq 5) 10 0 _ _ _ ?_
  exact loop1 0 (Nat.zero_le _)
theorem S_M_of {e : Nat} {h : jxH} (hw : AR (h 23 0) 15 16 gf_pw) (he : e < 2 ^ 31) : jx_MW 33 [jR 20 0, jI (nI e)] h (fun r h' => r = nI (gf_pw e) ∧ h' = h) := by
  refine jx_MW_by [some (jR 20 0), some (jI (nI e))] (by decide) rfl (Nat.le_of_ble_eq_true rfl) (fun V rule => ?_)
  refine rule (fun _ => false) 10 0 _ _ _ ?_
  refine And.intro (by decide) ?_
  refine Exists.intro (e % 15) (And.intro (And.intro (Nat.mod_lt _ (by decide)) (jn_rem he (by decide) (by decide))) ?_)
  exact And.intro (by rw [hw.at (Nat.mod_lt _ (by decide)), gf_pw_mod]) rfl
theorem gf_qt_ml : ∀ a, a < 16 → ∀ b, b < 16 → ¬ b = 0 → gf_ml (gf_qt a b) b = a := by decide +kernel
theorem gf_qt_un : ∀ a, a < 16 → ∀ b, b < 16 → ¬ b = 0 → ∀ q, q < 16 → gf_ml q b = a → q = gf_qt a b := by decide +kernel
theorem S_M_quotient {a b : Nat} {h : jxH} (ha : a < 16) (hb : b < 16) (hb0 : ¬ b = 0) : jx_MW 73 [jR 20 0, jI (nI a), jI (nI b)] h (fun r h' => r = nI (gf_qt a b) ∧ h' = h) := by
  refine jx_MW_by [some (jR 20 0), some (jI (nI a)), some (jI (nI b)), none] (by decide) rfl (Nat.le_of_ble_eq_true rfl) (fun V rule => ?_)
  have hq9 := gf_qt_lt a b
  have loop := jl_up (P := fun q => V 2 [some (jR 20 0), some (jI (nI a)), some (jI (nI b)), some (jI (nI q))] [] h) (gf_qt a b)
    (by
      refine rule (fun _ => false) 20 2 _ _ _ ?_
      refine jx_cal (S_M_product hq9 hb) rfl (fun r h' hq => ?_)
      obtain ⟨rfl, rfl⟩ := hq
      refine pk_eq a a (fun _ => ?_) (fun q => absurd rfl q) (by rw [gf_qt_ml a ha b hb hb0]) rfl
      exact And.intro rfl rfl)
    (fun q hq ih => by
      refine rule (Nat.beq 2) 20 2 _ _ _ ?_
      refine jx_cal (S_M_product (show q < 16 by omega) hb) rfl (fun r h' hq2 => ?_)
      obtain ⟨rfl, rfl⟩ := hq2
      have hl := gf_ml_lt q b
      refine pk_eq (gf_ml q b) a (fun z => ?_) (fun _ => ?_)
      · exact absurd (gf_qt_un a ha b hb hb0 q (by omega) z) (by omega)
      · exact jv_to (V := V) ih (by rw [nI_add]) rfl rfl)
  refine rule (Nat.beq 2) 10 0 _ _ _ ?_
  exact loop 0 (Nat.zero_le _)
/-- 'thrown' set -/
abbrev thr (h : jxH) (t : Nat) : jxH := jx_st h 20 0 (upd (h 20 0) 0 (nI t))
theorem S_M_thrown {h : jxH} : jx_MW 39 [jR 20 0] h (fun r h' => r = h 20 0 0 ∧ h' = h) := by
  refine jx_MW_by [some (jR 20 0)] (by decide) rfl (Nat.le_of_ble_eq_true rfl) (fun V rule => ?_)
  refine rule (fun _ => false) 10 0 _ _ _ ?_
  exact And.intro rfl rfl
theorem S_M_wipe {h : jxH} : jx_MW 41 [jR 20 0] h (fun r h' => r = h 20 0 1 ∧ h' = jx_st h 20 0 (upd (upd (h 20 0) 0 (nI 0)) 1 (nI 0))) := by
  refine jx_MW_by [some (jR 20 0), none] (by decide) rfl (Nat.le_of_ble_eq_true rfl) (fun V rule => ?_)
  refine rule (fun _ => false) 20 0 _ _ _ ?_
  exact And.intro rfl (by rw [jx_st_same, jx_st_st])
theorem S_M_missing {kp : Nat} {h : jxH} (hk : h 20 0 12 = nI kp) (hk9 : kp < 100) : jx_MW 31 [jR 20 0] h (fun r h' => r = (if kp = 0 then -nI 1 else h 20 0 13 + nI 2 - nI kp) ∧ h' = thr h 0) := by
  refine jx_MW_by [some (jR 20 0)] (by decide) rfl (Nat.le_of_ble_eq_true rfl) (fun V rule => ?_)
  refine rule (fun _ => false) 20 0 _ _ _ ?_
  refine pk_eq kp 0 (fun q => ?_) (fun q => ?_) hk rfl
  · exact And.intro (by rw [if_pos q]) rfl
  · refine And.intro ?_ rfl
    rw [if_neg q, ← hk]
    rfl
theorem S_M_load {b : Int32} {len : Nat} {h : jxH} (hl : h 20 0 1 = nI len) (hl9 : len ≤ 80) : jx_MW 30 [jR 20 0, jI b] h
    (fun r h' => (¬ (¬ b < 0 ∧ b ≤ nI 255) → h' = thr h 1) ∧ ((¬ b < 0 ∧ b ≤ nI 255) → len = 80 → h' = thr h 2) ∧ ((¬ b < 0 ∧ b ≤ nI 255) → len < 80 → r = nI (len + 1) ∧ h' = jx_st (jx_st h 21 0 (upd (h 21 0) len b)) 20 0 (upd (upd (h 20 0) 0 (nI 0)) 1 (nI (len + 1))))) := by
  refine jx_MW_by [some (jR 20 0), some (jI b)] (by decide) rfl (Nat.le_of_ble_eq_true rfl) (fun V rule => ?_)
  refine rule (fun _ => false) 60 0 _ _ _ ?_
  refine br_c (fun q => ?_) (fun q => ?_)
  · refine pk_eq 1 0 (fun z => absurd z (by decide)) (fun _ => ?_)
    exact And.intro (fun _ => rfl) (And.intro (fun z => absurd q z.1) (fun z => absurd q z.1))
  · refine br_c (fun q1 => ?_) (fun q1 => ?_)
    · refine pk_eq len 80 (fun q2 => ?_) (fun q2 => ?_) hl rfl
      · refine pk_eq 2 0 (fun z => absurd z (by decide)) (fun _ => ?_)
        exact And.intro (fun z => absurd ⟨q, q1⟩ z) (And.intro (fun _ _ => rfl) (fun _ z => absurd z (by omega)))
      · refine pk_eq 0 0 (fun _ => ?_) (fun z => absurd rfl z)
        refine Exists.intro len (And.intro (And.intro (by omega) hl) ?_)
        refine And.intro (fun z => absurd ⟨q, q1⟩ z) (And.intro (fun _ z => absurd z (by omega)) (fun _ _ => And.intro ?_ ?_))
        · show h 20 0 1 + nI 1 = _
          rw [hl, nI_add]
        · show jx_st (jx_st (jx_st h 20 0 (upd (h 20 0) 0 (nI 0))) 21 0 (upd (h 21 0) len b)) 20 0 (upd (upd (h 20 0) 0 (nI 0)) 1 (h 20 0 1 + nI 1)) = _
          rw [hl, nI_add, jx_sc (show 20 ≠ 21 by decide), jx_st_st]
    · refine pk_eq 1 0 (fun z => absurd z (by decide)) (fun _ => ?_)
      exact And.intro (fun _ => rfl) (And.intro (fun z => absurd z.2 q1) (fun z => absurd z.2 q1))
theorem S_M_errors {r : Int32} {h : jxH} : jx_MW 27 [jR 20 0, jI r] h (fun q h' => (hp9 r 4 = true → (∀ j, j < 4 → r = nI j → q = h 29 0 j) ∧ h' = thr h 0) ∧ (hp9 r 4 = false → h' = thr h 1)) := by
  refine jx_MW_by [some (jR 20 0), some (jI r)] (by decide) rfl (Nat.le_of_ble_eq_true rfl) (fun V rule => ?_)
  refine rule (fun _ => false) 40 0 _ _ _ ?_
  refine br_c (fun q => ?_) (fun q => ?_)
  · refine pk_eq 1 0 (fun z => absurd z (by decide)) (fun _ => ?_)
    exact And.intro (fun z => by simp [hp9, q] at z) (fun _ => rfl)
  · have e0 : r ≤ nI 3 ↔ r < nI 4 := by
      rw [Int32.le_iff_toInt_le, Int32.lt_iff_toInt_lt, show (nI 3).toInt = 3 from nI_toInt (by decide), show (nI 4).toInt = 4 from nI_toInt (by decide)]
      omega
    refine br_c (fun q1 => ?_) (fun q1 => ?_)
    · have e : hp9 r 4 = true := by
        have q2 : r < nI 4 := e0.mp q1
        simp [hp9, q, q2]
      obtain ⟨j, hj, rfl⟩ := hp9_t (by decide) e
      refine pk_eq 0 0 (fun _ => ?_) (fun z => absurd rfl z)
      refine Exists.intro j (And.intro (And.intro hj rfl) ?_)
      refine And.intro (fun _ => And.intro (fun j2 hj2 ej => ?_) rfl) (fun z => absurd (e.symm.trans z) (by decide))
      rw [← jn_inj (by omega) (by omega) ej]
      rfl
    · have q2 : ¬ r < nI 4 := fun z => q1 (e0.mpr z)
      refine pk_eq 1 0 (fun z => absurd z (by decide)) (fun _ => ?_)
      exact And.intro (fun z => by simp [hp9, q2] at z) (fun _ => rfl)
theorem S_M_out {i : Int32} {rl : Nat} {h : jxH} (hr : h 20 0 17 = nI rl) (hr9 : rl ≤ 80) : jx_MW 34 [jR 20 0, jI i] h (fun q h' => (hp9 i rl = true → (∀ j, j < rl → i = nI j → q = h 32 0 j) ∧ h' = thr h 0) ∧ (hp9 i rl = false → h' = thr h 1)) := by
  refine jx_MW_by [some (jR 20 0), some (jI i)] (by decide) rfl (Nat.le_of_ble_eq_true rfl) (fun V rule => ?_)
  refine rule (fun _ => false) 40 0 _ _ _ ?_
  refine br_c (fun q => ?_) (fun q => ?_)
  · refine pk_eq 1 0 (fun z => absurd z (by decide)) (fun _ => ?_)
    exact And.intro (fun z => by simp [hp9, q] at z) (fun _ => rfl)
  · refine br_c (fun q1 => ?_) (fun q1 => ?_)
    · have e : hp9 i rl = true := by
        have q2 : i < nI rl := by rw [← hr]; exact q1
        simp [hp9, q, q2]
      obtain ⟨j, hj, rfl⟩ := hp9_t (by omega) e
      refine pk_eq 0 0 (fun _ => ?_) (fun z => absurd rfl z)
      refine Exists.intro j (And.intro (And.intro (by omega) rfl) ?_)
      refine And.intro (fun _ => And.intro (fun j2 hj2 ej => ?_) rfl) (fun z => absurd (e.symm.trans z) (by decide))
      rw [← jn_inj (by omega) (by omega) ej]
      rfl
    · have q2 : ¬ i < nI rl := by rw [← hr]; exact q1
      refine pk_eq 1 0 (fun z => absurd z (by decide)) (fun _ => ?_)
      exact And.intro (fun z => by simp [hp9, q2] at z) (fun _ => rfl)
theorem S_M_reset {h : jxH} : jx_MW 36 [jR 20 0] h (fun r h' => r = h 20 0 12 ∧ ∃ f, h' = jx_st (jx_st h 20 0 (upd (upd (upd (h 20 0) 0 (nI 0)) 12 (nI 0)) 17 (nI 0))) 30 0 f ∧ BA f 6 (fun _ => false)) := by
  refine jx_MW_by [some (jR 20 0), none, none] (by decide) rfl (Nat.le_of_ble_eq_true rfl) (fun V rule => ?_)
  have loop := jl_up (P := fun i => ∀ f : Nat → Int32, (∀ k, k < i → f k = nI 0) → V 22 [some (jR 20 0), some (jI (h 20 0 12)), some (jI (nI i))] [] (jx_st (jx_st h 20 0 (upd (upd (upd (h 20 0) 0 (nI 0)) 12 (nI 0)) 17 (nI 0))) 30 0 f)) 6
    (by
      intro f hf
      refine rule (fun _ => false) 10 22 _ _ _ ?_
      refine pk_le 6 6 (fun _ => ?_) (fun q => absurd q (Nat.lt_irrefl _))
      exact And.intro rfl (Exists.intro f (And.intro rfl hf)))
    (fun i hi ih => by
      intro f hf
      refine rule (Nat.beq 22) 20 22 _ _ _ ?_
      refine pk_le 6 i (fun q => absurd q (by omega)) (fun _ => ?_)
      refine Exists.intro i (And.intro (And.intro hi (And.intro rfl (Or.inl rfl))) ?_)
      refine jv_to (V := V) (ih (upd f i (nI 0)) (fun k hk => ?_)) (by rw [nI_add]) rfl (by rw [jx_st_same, jx_st_st])
      by_cases hki : k = i
      · subst hki; exact upd_same _ _ _
      · rw [upd_ne _ _ hki]; exact hf k (by omega))
  refine rule (Nat.beq 22) 20 0 _ _ _ ?_
  refine jv_to (V := V) (loop 0 (Nat.zero_le _) (h 30 0) (fun k hk => absurd hk (Nat.not_lt_zero _))) rfl rfl ?_
  rw [jx_st_same, jx_st_st, jx_st_same, jx_st_st]
  exact (jx_st_id _ 30 0).symm
theorem hp18 (x : Int32) : nI 17 < x ↔ ¬ x < nI 18 := by
  rw [Int32.lt_iff_toInt_lt, Int32.lt_iff_toInt_lt, show (nI 17).toInt = 17 from nI_toInt (by decide), show (nI 18).toInt = 18 from nI_toInt (by decide)]
  omega
theorem S_M_noDot {pg x y : Int32} {P : Nat} {h : jxH} (hP : h 20 0 3 = nI P) : jx_MW 32 [jR 20 0, jI pg, jI x, jI y] h (fun r h' => r = nI (!hd9 pg x y P).toNat ∧ h' = h) := by
  refine jx_MW_by [some (jR 20 0), some (jI pg), some (jI x), some (jI y)] (by decide) rfl (Nat.le_of_ble_eq_true rfl) (fun V rule => ?_)
  refine rule (fun _ => false) 40 0 _ _ _ ?_
  refine br_c (fun q1 => ?_) (fun q1 => ?_)
  · exact And.intro (Or.inr rfl) (And.intro (by simp [hd9, hp9, q1]) rfl)
  refine br_c (fun q2 => ?_) (fun q2 => ?_)
  · have z : ¬ pg < nI P := by rw [← hP]; exact Int32.not_lt.mpr q2
    exact And.intro (Or.inr rfl) (And.intro (by simp [hd9, hp9, z]) rfl)
  refine br_c (fun q3 => ?_) (fun q3 => ?_)
  · exact And.intro (Or.inr rfl) (And.intro (by simp [hd9, hp9, q3]) rfl)
  refine br_c (fun q4 => ?_) (fun q4 => ?_)
  · have z : ¬ x < nI 18 := (hp18 x).mp q4
    exact And.intro (Or.inr rfl) (And.intro (by simp [hd9, hp9, z]) rfl)
  refine br_c (fun q5 => ?_) (fun q5 => ?_)
  · exact And.intro (Or.inr rfl) (And.intro (by simp [hd9, hp9, q5]) rfl)
  have z2 : pg < nI P := by rw [← hP]; exact Int32.not_le.mp q2
  have z4 : x < nI 18 := Classical.byContradiction (fun z => q4 ((hp18 x).mpr z))
  refine br_c (fun q6 => ?_) (fun q6 => ?_)
  · have z6 : y < nI 18 := Classical.byContradiction (fun z => Int32.not_lt.mpr q6 ((hp18 y).mpr z))
    exact And.intro (Or.inl rfl) (And.intro (by simp [hd9, hp9, q1, z2, q3, z4, q5, z6]) rfl)
  · have z6 : ¬ y < nI 18 := (hp18 y).mp (Int32.not_le.mp q6)
    exact And.intro (Or.inr rfl) (And.intro (by simp [hd9, hp9, z6]) rfl)
