/-! Row: completion, data, drawing, lifting. -/
theorem jn_dec {i : Nat} (h : 0 < i) : nI i + -nI (0 + 1) = nI (i - 1) := by
  obtain ⟨k, rfl⟩ : ∃ k, i = k + 1 := ⟨i - 1, by omega⟩
  have e : -nI (0 + 1) = (-1 : Int32) := by decide +kernel
  rw [e, pk_m1]
  rfl
def cq (s : Nat → Nat) : Nat → Nat × Nat × Nat × Nat
  | 0 => (0, 0, 0, 0)
  | n + 1 => ((cq s n).2.1 ^^^ gf_ml (s (14 - n) ^^^ (cq s n).1) 13, (cq s n).2.2.1 ^^^ gf_ml (s (14 - n) ^^^ (cq s n).1) 12, (cq s n).2.2.2 ^^^ gf_ml (s (14 - n) ^^^ (cq s n).1) 8, gf_ml (s (14 - n) ^^^ (cq s n).1) 7)
theorem cq_succ (s : Nat → Nat) (n : Nat) : cq s (n + 1) = ((cq s n).2.1 ^^^ gf_ml (s (14 - n) ^^^ (cq s n).1) 13, (cq s n).2.2.1 ^^^ gf_ml (s (14 - n) ^^^ (cq s n).1) 12, (cq s n).2.2.2 ^^^ gf_ml (s (14 - n) ^^^ (cq s n).1) 8, gf_ml (s (14 - n) ^^^ (cq s n).1) 7) := rfl
def cpn (s : Nat → Nat) (n : Nat) : Nat → Nat := fun k => if k = 0 then (cq s n).2.2.2 else if k = 1 then (cq s n).2.2.1 else if k = 2 then (cq s n).2.1 else if k = 3 then (cq s n).1 else s k
theorem cq_lt {s : Nat → Nat} (hs : ∀ k, k < 15 → s k < 16) : ∀ n, (cq s n).1 < 16 ∧ (cq s n).2.1 < 16 ∧ (cq s n).2.2.1 < 16 ∧ (cq s n).2.2.2 < 16
  | 0 => ⟨Nat.succ_pos 15, Nat.succ_pos 15, Nat.succ_pos 15, Nat.succ_pos 15⟩
  | n + 1 => by
    obtain ⟨h1, h2, h3, h4⟩ := cq_lt hs n
    exact ⟨gf_xor_lt h2 (gf_ml_lt _ _), gf_xor_lt h3 (gf_ml_lt _ _), gf_xor_lt h4 (gf_ml_lt _ _), gf_ml_lt _ _⟩
theorem S_Row_complete {w : Nat} {s : Nat → Nat} {h : jxH} (hs : AR (h 7 w) 15 16 s) : jx_MW 53 [jR 6 w] h (fun _ h' => ∃ f, h' = jx_st h 7 w f ∧ AR f 15 16 (cpn s 11)) := by
  refine jx_MW_by [some (jR 6 w), none, none, none] (by decide) rfl (Nat.le_of_ble_eq_true rfl) (fun V rule => ?_)
  have hb := fun n => cq_lt (s := s) (fun k hk => hs.lt hk) n
  have loop2 := jl_up (P := fun n => ∀ (o1 o2 : Option jxV) (f : Nat → Int32), AR f 15 16 (cpn s n) → V 23 [some (jR 6 w), some (jI (nI (14 - n))), o1, o2] [] (jx_st h 7 w f)) 11
    (by
      intro o1 o2 f hf
      refine rule (fun _ => false) 10 23 _ _ _ ?_
      refine pk_lt 3 4 (fun _ => ?_) (fun q => absurd q (by decide))
      exact Exists.intro f (And.intro rfl hf))
    (fun n hn ih => by
      intro o1 o2 f hf
      refine rule (Nat.beq 23) 120 23 _ _ _ ?_
      refine pk_lt (14 - n) 4 (fun q => absurd q (by omega)) (fun _ => ?_)
      refine Exists.intro (14 - n) (And.intro (And.intro (by omega) rfl) ?_)
      refine Exists.intro 3 (And.intro (And.intro (by decide) rfl) ?_)
      have e14 : cpn s n (14 - n) = s (14 - n) := by
        unfold cpn
        rw [if_neg (by omega), if_neg (by omega), if_neg (by omega), if_neg (by omega)]
      have v14 : f (14 - n) = nI (s (14 - n)) := by rw [hf.at (show 14 - n < 15 by omega), e14]
      have v3 : f 3 = nI (cq s n).1 := hf.at (show 3 < 15 by decide)
      have v2 : f 2 = nI (cq s n).2.1 := hf.at (show 2 < 15 by decide)
      have v1 : f 1 = nI (cq s n).2.2.1 := hf.at (show 1 < 15 by decide)
      have v0 : f 0 = nI (cq s n).2.2.2 := hf.at (show 0 < 15 by decide)
      rw [jx_st_same, v14, v3]
      obtain ⟨b1, b2, b3, b4⟩ := hb n
      have hc : s (14 - n) ^^^ (cq s n).1 < 16 := gf_xor_lt (hs.lt (by omega)) b1
      generalize hcd : s (14 - n) ^^^ (cq s n).1 = cr at hc
      have ecr : nI (s (14 - n)) ^^^ nI (cq s n).1 = nI cr := by rw [jn_xor, hcd]
      refine pk_le 3 0 (fun q => absurd q (by decide)) (fun _ => ?_)
      refine Exists.intro 2 (And.intro (And.intro (by decide) (by decide)) ?_)
      refine Exists.intro 3 (And.intro (And.intro (by decide) rfl) ?_)
      refine jx_cal (S_product (b := 13) hc (by decide)) (congrArg (fun z => [jI z, jI (nI 13)]) ecr) (fun q h2 hq => ?_)
      obtain ⟨rfl, rfl⟩ := hq
      refine Exists.intro 3 (And.intro (And.intro (by decide) rfl) ?_)
      rw [jx_st_same, jx_st_st, v2, ecr, jn_xor]
      refine pk_le 2 0 (fun q => absurd q (by decide)) (fun _ => ?_) (by decide)
      refine Exists.intro 1 (And.intro (And.intro (by decide) (by decide)) ?_)
      refine Exists.intro 2 (And.intro (And.intro (by decide) (by decide)) ?_)
      refine jx_cal (S_product (b := 12) hc (by decide)) rfl (fun q h2 hq => ?_)
      obtain ⟨rfl, rfl⟩ := hq
      refine Exists.intro 2 (And.intro (And.intro (by decide) (by decide)) ?_)
      rw [jx_st_same, jx_st_st, upd_ne _ _ (show 1 ≠ 3 by decide), v1, jn_xor]
      refine pk_le 1 0 (fun q => absurd q (by decide)) (fun _ => ?_) (by decide)
      refine Exists.intro 0 (And.intro (And.intro (by decide) (by decide)) ?_)
      refine Exists.intro 1 (And.intro (And.intro (by decide) (by decide)) ?_)
      refine jx_cal (S_product (b := 8) hc (by decide)) rfl (fun q h2 hq => ?_)
      obtain ⟨rfl, rfl⟩ := hq
      refine Exists.intro 1 (And.intro (And.intro (by decide) (by decide)) ?_)
      rw [jx_st_same, jx_st_st, upd_ne _ _ (show 0 ≠ 2 by decide), upd_ne _ _ (show 0 ≠ 3 by decide), v0, jn_xor]
      refine pk_le 0 0 (fun _ => ?_) (fun q => absurd q (by decide)) (by decide)
      refine Exists.intro 0 (And.intro (And.intro (by decide) rfl) ?_)
      refine jx_cal (S_product (b := 7) hc (by decide)) rfl (fun q h2 hq => ?_)
      obtain ⟨rfl, rfl⟩ := hq
      refine Exists.intro 0 (And.intro (And.intro (by decide) rfl) ?_)
      rw [jx_st_same, jx_st_st]
      have g := (((hf.put (k := 3) (gf_xor_lt b2 (gf_ml_lt cr 13))).put (k := 2) (gf_xor_lt b3 (gf_ml_lt cr 12))).put (k := 1) (gf_xor_lt b4 (gf_ml_lt cr 8))).put (k := 0) (gf_ml_lt cr 7)
      refine jv_to (V := V) (ih _ _ _ (g.congr (fun k hk => ?_))) (by rw [jn_dec (by omega), show 14 - n - 1 = 14 - (n + 1) by omega]) rfl rfl
      unfold cpn nup
      rw [cq_succ, hcd]
      by_cases k0 : k = 0
      · simp [k0]
      by_cases k1 : k = 1
      · simp [k1]
      by_cases k2 : k = 2
      · simp [k2]
      by_cases k3 : k = 3
      · simp [k3]
      simp [k0, k1, k2, k3])
  have loop1 := jl_up (P := fun j => ∀ f : Nat → Int32, AR f 15 16 (fun k => if k < j then 0 else s k) → V 2 [some (jR 6 w), some (jI (nI j)), none, none] [] (jx_st h 7 w f)) 4
    (by
      intro f hf
      refine rule (Nat.beq 23) 10 2 _ _ _ ?_
      refine pk_le 4 4 (fun _ => ?_) (fun q => absurd q (Nat.lt_irrefl _))
      refine loop2 0 (Nat.zero_le _) none none f (hf.congr (fun k hk => ?_))
      unfold cpn cq
      by_cases k0 : k = 0
      · simp [k0]
      by_cases k1 : k = 1
      · simp [k1]
      by_cases k2 : k = 2
      · simp [k2]
      by_cases k3 : k = 3
      · simp [k3]
      rw [if_neg k0, if_neg k1, if_neg k2, if_neg k3, if_neg (by omega)])
    (fun j hj ih => by
      intro f hf
      refine rule (Nat.beq 2) 20 2 _ _ _ ?_
      refine pk_le 4 j (fun q => absurd q (by omega)) (fun _ => ?_)
      refine Exists.intro j (And.intro (And.intro (by omega) rfl) ?_)
      have g := hf.put (k := j) (v := 0) (by decide)
      refine jv_to (V := V) (ih _ (g.congr (fun k hk => ?_))) (by rw [nI_add]) rfl (by rw [jx_st_same, jx_st_st])
      unfold nup
      by_cases hkj : k = j
      · subst hkj; simp
      · rw [if_neg hkj]
        exact if_iff ⟨fun q => by omega, fun q => by omega⟩)
  refine rule (Nat.beq 2) 10 0 _ _ _ ?_
  exact jv_to (V := V) (loop1 0 (Nat.zero_le _) (h 7 w) hs) rfl rfl (jx_st_id h 7 w).symm
theorem S_Row_takeData {w r : Nat} {s d : Nat → Nat} {h : jxH} (hs : AR (h 7 w) 15 16 s) (hd : AR (h 5 0) 44 16 d) (hr : r < 4) : jx_MW 57 [jR 6 w, jR 5 0, jI (nI r)] h (fun _ h' => ∃ f, h' = jx_st h 7 w f ∧ AR f 15 16 (fun k => if 4 ≤ k then d (11 * r + (k - 4)) else s k)) := by
  refine jx_MW_by [some (jR 6 w), some (jR 5 0), some (jI (nI r))] (by decide) rfl (Nat.le_of_ble_eq_true rfl) (fun V rule => ?_)
  refine rule (fun _ => false) 20 0 _ _ _ ?_
  refine Exists.intro (11 * r) (Exists.intro 4 (Exists.intro 11 (And.intro (And.intro (pk_mul 11 r) (And.intro rfl (And.intro rfl (And.intro (by omega) (by decide))))) ?_)))
  refine Exists.intro _ (And.intro rfl (fun k hk => ?_))
  by_cases h4 : 4 ≤ k
  · dsimp only
    rw [pk_cpy_in h4 (by omega), if_pos h4]
    exact hd (11 * r + (k - 4)) (by omega)
  · dsimp only
    rw [pk_cpy_out (Or.inl (by omega)), if_neg h4]
    exact hs k hk
theorem S_Row_giveData {w r : Nat} {s d : Nat → Nat} {h : jxH} (hs : AR (h 7 w) 15 16 s) (hr : r < 4) : jx_MW 55 [jR 6 w, jR 12 0, jI (nI r)] h (fun _ h' => ∃ f, h' = jx_st h 12 0 f ∧ ∀ k, f k = if 11 * r ≤ k ∧ k < 11 * r + 11 then nI (s (4 + (k - 11 * r))) else h 12 0 k) := by
  refine jx_MW_by [some (jR 6 w), some (jR 12 0), some (jI (nI r))] (by decide) rfl (Nat.le_of_ble_eq_true rfl) (fun V rule => ?_)
  refine rule (fun _ => false) 20 0 _ _ _ ?_
  refine Exists.intro 4 (Exists.intro (11 * r) (Exists.intro 11 (And.intro (And.intro rfl (And.intro (pk_mul 11 r) (And.intro rfl (And.intro (by decide) (by omega))))) ?_)))
  refine Exists.intro _ (And.intro rfl (fun k => ?_))
  by_cases h4 : 11 * r ≤ k ∧ k < 11 * r + 11
  · rw [pk_cpy_in h4.1 h4.2, if_pos h4]
    exact hs.at (by omega)
  · rw [pk_cpy_out (by omega), if_neg h4]
/-- the row s drawn as row r, its first n symbols -/
noncomputable def dr (D : Nat → Nat → Bool) (s : Nat → Nat) (r : Nat) : Nat → Nat → Nat → Bool
  | 0 => D
  | n + 1 => bD (dr D s r n) (4 * n + r) (s n)
theorem S_Row_draw {w p r : Nat} {s : Nat → Nat} {D : Nat → Nat → Bool} {h : jxH} (hs : AR (h 7 w) 15 16 s) (hL : LN (h 4 p) D) (hr : r < 4) : jx_MW 96 [jR 6 w, jR 3 p, jI (nI r)] h (fun _ h' => ∃ f, h' = jx_st h 4 p f ∧ LN f (dr D s r 15)) := by
  refine jx_MW_by [some (jR 6 w), some (jR 3 p), some (jI (nI r)), none] (by decide) rfl (Nat.le_of_ble_eq_true rfl) (fun V rule => ?_)
  have loop := jl_up (P := fun i => ∀ f : Nat → Int32, LN f (dr D s r i) → V 2 [some (jR 6 w), some (jR 3 p), some (jI (nI r)), some (jI (nI i))] [] (jx_st h 4 p f)) 15
    (by
      intro f hf
      refine rule (fun _ => false) 10 2 _ _ _ ?_
      refine pk_le 15 15 (fun _ => ?_) (fun q => absurd q (Nat.lt_irrefl _))
      exact Exists.intro f (And.intro rfl hf))
    (fun i hi ih => by
      intro f hf
      refine rule (Nat.beq 2) 30 2 _ _ _ ?_
      refine pk_le 15 i (fun q => absurd q (by omega)) (fun _ => ?_)
      refine Exists.intro i (And.intro (And.intro hi rfl) ?_)
      refine jx_cal (S_Sheet_drawSymbol (bl := 4 * i + r) (s := s i) (hf.st h p) (by omega) (hs.lt hi)) (by rw [show jx_st h 4 p f 7 w i = h 7 w i from rfl, hs.at hi, pk_mul, nI_add]) (fun q h2 hq => ?_)
      obtain ⟨f2, rfl, g⟩ := hq
      exact jv_to (V := V) (ih f2 g) (by rw [nI_add]) rfl (by rw [jx_st_st]))
  refine rule (Nat.beq 2) 10 0 _ _ _ ?_
  exact jv_to (V := V) (loop 0 (Nat.zero_le _) (h 4 p) hL) rfl rfl (jx_st_id h 4 p).symm
/-- the symbol in block b of the dots T -/
def rdS (T : Nat → Nat → Bool) (b : Nat) : Nat := sv (fun k => T (bX b + k % 2) (bY b + k / 2)) 4
theorem rdS_lt (T : Nat → Nat → Bool) (b : Nat) : rdS T b < 16 := sv_lt _ 4
theorem S_Row_lift {w p r t : Nat} {D : Nat → Nat → Bool} {h : jxH} (hL : LN (h 4 p) D) (hr : r < 4) (ht : t < 4) : jx_MW 97 [jR 6 w, jR 3 p, jI (nI r), jI (nI t)] h (fun _ h' => ∃ f, h' = jx_st h 7 w f ∧ AR f 15 16 (fun i => rdS (tu t D) (4 * i + r))) := by
  refine jx_MW_by [some (jR 6 w), some (jR 3 p), some (jI (nI r)), some (jI (nI t)), none] (by decide) rfl (Nat.le_of_ble_eq_true rfl) (fun V rule => ?_)
  have loop := jl_up (P := fun i => ∀ f : Nat → Int32, (∀ k, k < i → f k = nI (rdS (tu t D) (4 * k + r))) → V 3 [some (jR 6 w), some (jR 3 p), some (jI (nI r)), some (jI (nI t)), some (jI (nI i))] [] (jx_st h 7 w f)) 15
    (by
      intro f hf
      refine rule (fun _ => false) 10 3 _ _ _ ?_
      refine pk_le 15 15 (fun _ => ?_) (fun q => absurd q (Nat.lt_irrefl _))
      exact Exists.intro f (And.intro rfl (fun k hk => ⟨hf k hk, rdS_lt _ _⟩)))
    (fun i hi ih => by
      intro f hf
      refine rule (Nat.beq 3) 30 3 _ _ _ ?_
      refine pk_le 15 i (fun q => absurd q (by omega)) (fun _ => ?_)
      have hL' : LN (jx_st h 7 w f 4 p) D := hL
      refine jx_cal (S_Sheet_symbolAt (bl := 4 * i + r) hL' (by omega) ht) (by rw [pk_mul, nI_add]) (fun q h2 hq => ?_)
      obtain ⟨rfl, rfl⟩ := hq
      refine Exists.intro i (And.intro (And.intro hi rfl) ?_)
      refine jv_to (V := V) (ih (upd f i (nI (rdS (tu t D) (4 * i + r)))) (fun k hk => ?_)) (by rw [nI_add]) rfl (by rw [jx_st_same, jx_st_st]; rfl)
      by_cases hki : k = i
      · subst hki; exact upd_same _ _ _
      · rw [upd_ne _ _ hki]; exact hf k (by omega))
  refine rule (Nat.beq 3) 10 0 _ _ _ ?_
  exact jv_to (V := V) (loop 0 (Nat.zero_le _) (h 7 w) (fun k hk => absurd hk (Nat.not_lt_zero _))) rfl rfl (jx_st_id h 7 w).symm
