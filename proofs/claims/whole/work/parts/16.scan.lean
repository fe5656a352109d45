/-! Scan. -/
theorem jx_sc {h : jxH} {k k' i i' : Nat} {f g : Nat → Int32} (hn : k ≠ k') : jx_st (jx_st h k i f) k' i' g = jx_st (jx_st h k' i' g) k i f := by
  funext a b
  unfold jx_st
  by_cases h1 : a = k
  · have h2 : ¬ a = k' := fun q => hn (h1.symm.trans q)
    simp [h1, h2, hn]
  · by_cases h2 : a = k'
    · simp [h2, Ne.symm hn]
    · simp [h1, h2]
theorem S_Scan_number {d : Nat → Nat} {h : jxH} (hd : AR (h 12 0) 44 16 d) : jx_MW 18 [jR 11 0] h (fun r h' => r = nI (d 0) ∧ h' = h) := by
  refine jx_MW_by [some (jR 11 0)] (by decide) rfl (Nat.le_of_ble_eq_true rfl) (fun V rule => ?_)
  refine rule (fun _ => false) 10 0 _ _ _ ?_
  refine Exists.intro 0 (And.intro (And.intro (by decide) rfl) ?_)
  exact And.intro (hd.at (by decide)) rfl
theorem S_Scan_needed {d : Nat → Nat} {h : jxH} (hd : AR (h 12 0) 44 16 d) : jx_MW 17 [jR 11 0] h (fun r h' => r = nI (d 1) ∧ h' = h) := by
  refine jx_MW_by [some (jR 11 0)] (by decide) rfl (Nat.le_of_ble_eq_true rfl) (fun V rule => ?_)
  refine rule (fun _ => false) 10 0 _ _ _ ?_
  refine Exists.intro 1 (And.intro (And.intro (by decide) rfl) ?_)
  exact And.intro (hd.at (by decide)) rfl
theorem S_Scan_length {d : Nat → Nat} {h : jxH} (hd : AR (h 12 0) 44 16 d) : jx_MW 16 [jR 11 0] h (fun r h' => r = nI (d 2 + 16 * d 3) ∧ h' = h) := by
  refine jx_MW_by [some (jR 11 0)] (by decide) rfl (Nat.le_of_ble_eq_true rfl) (fun V rule => ?_)
  refine rule (fun _ => false) 20 0 _ _ _ ?_
  refine Exists.intro 2 (And.intro (And.intro (by decide) rfl) ?_)
  refine Exists.intro 3 (And.intro (And.intro (by decide) rfl) ?_)
  refine And.intro ?_ rfl
  rw [hd.at (show 2 < 44 by decide), hd.at (show 3 < 44 by decide), pk_mul, nI_add]
theorem S_Scan_payload {d : Nat → Nat} {m : Nat} {h : jxH} (hd : AR (h 12 0) 44 16 d) (hm : m < 40) : jx_MW 19 [jR 11 0, jI (nI m)] h (fun r h' => r = nI (d (4 + m)) ∧ h' = h) := by
  refine jx_MW_by [some (jR 11 0), some (jI (nI m))] (by decide) rfl (Nat.le_of_ble_eq_true rfl) (fun V rule => ?_)
  refine rule (fun _ => false) 20 0 _ _ _ ?_
  refine Exists.intro (4 + m) (And.intro (And.intro (by omega) (nI_add 4 m)) ?_)
  exact And.intro (hd.at (by omega)) rfl
theorem S_Scan_errorsOf {r : Nat} {h : jxH} (hr : r < 4) : jx_MW 14 [jR 11 0, jI (nI r)] h (fun q h' => q = h 13 0 r ∧ h' = h) := by
  refine jx_MW_by [some (jR 11 0), some (jI (nI r))] (by decide) rfl (Nat.le_of_ble_eq_true rfl) (fun V rule => ?_)
  refine rule (fun _ => false) 20 0 _ _ _ ?_
  refine Exists.intro r (And.intro (And.intro hr rfl) ?_)
  exact And.intro rfl rfl
theorem S_Scan_forgetErrors {h : jxH} : jx_MW 15 [jR 11 0] h (fun _ h' => ∃ f, h' = jx_st h 13 0 f ∧ ∀ r, r < 4 → f r = -nI 2) := by
  refine jx_MW_by [some (jR 11 0), none] (by decide) rfl (Nat.le_of_ble_eq_true rfl) (fun V rule => ?_)
  have loop := jl_up (P := fun i => ∀ f : Nat → Int32, (∀ k, k < i → f k = -nI 2) → V 2 [some (jR 11 0), some (jI (nI i))] [] (jx_st h 13 0 f)) 4
    (by
      intro f hf
      refine rule (fun _ => false) 10 2 _ _ _ ?_
      refine pk_le 4 4 (fun _ => ?_) (fun q => absurd q (Nat.lt_irrefl _))
      exact Exists.intro f (And.intro rfl hf))
    (fun i hi ih => by
      intro f hf
      refine rule (Nat.beq 2) 20 2 _ _ _ ?_
      refine pk_le 4 i (fun q => absurd q (by omega)) (fun _ => ?_)
      refine Exists.intro i (And.intro (And.intro hi rfl) ?_)
      refine jv_to (V := V) (ih (upd f i (-nI 2)) (fun k hk => ?_)) (by rw [nI_add]) rfl (by rw [jx_st_same, jx_st_st])
      by_cases hki : k = i
      · subst hki; exact upd_same _ _ _
      · rw [upd_ne _ _ hki]; exact hf k (by omega))
  refine rule (Nat.beq 2) 10 0 _ _ _ ?_
  exact jv_to (V := V) (loop 0 (Nat.zero_le _) (h 13 0) (fun k hk => absurd hk (Nat.not_lt_zero _))) rfl rfl (jx_st_id h 13 0).symm
/-- the best turn so far and its faults, more turns tried -/
def ub (F : Nat → Nat) (t : Nat) : Nat → Nat × Nat
  | 0 => (t, F t)
  | n + 1 => if F ((t + (n + 1)) % 4) < (ub F t n).2 then ((t + (n + 1)) % 4, F ((t + (n + 1)) % 4)) else ub F t n
theorem ub_lt {F : Nat → Nat} {t : Nat} (ht : t < 4) : ∀ n, (ub F t n).1 < 4 ∧ (ub F t n).2 = F (ub F t n).1
  | 0 => ⟨ht, rfl⟩
  | n + 1 => by
    unfold ub
    split
    · exact ⟨Nat.mod_lt _ (by decide), rfl⟩
    · exact ub_lt ht n
def ftn (D : Nat → Nat → Bool) (t : Nat) : Nat := fts (tu t D) 17
theorem ftn_le (D : Nat → Nat → Bool) (t : Nat) : ftn D t ≤ 68 := fts_le _ 17
theorem S_Scan_uprightTurns {p t : Nat} {D : Nat → Nat → Bool} {h : jxH} (hL : LN (h 4 p) D) (ht : t < 4) : jx_MW 103 [jR 3 p, jI (nI t)] h (fun r h' => r = nI (ub (ftn D) t 3).1 ∧ h' = h) := by
  refine jx_MW_by [some (jR 3 p), some (jI (nI t)), none, none, none, none, none] (by decide) rfl (Nat.le_of_ble_eq_true rfl) (fun V rule => ?_)
  have loop := jl_up (P := fun n => ∀ o1 o2 : Option jxV, V 11 [some (jR 3 p), some (jI (nI t)), some (jI (nI (ub (ftn D) t n).1)), some (jI (nI (ub (ftn D) t n).2)), some (jI (nI (n + 1))), o1, o2] [] h) 3
    (by
      intro o1 o2
      refine rule (fun _ => false) 10 11 _ _ _ ?_
      refine pk_le 4 4 (fun _ => ?_) (fun q => absurd q (Nat.lt_irrefl _))
      exact And.intro rfl rfl)
    (fun n hn ih => by
      intro o1 o2
      refine rule (Nat.beq 11) 40 11 _ _ _ ?_
      refine pk_le 4 (n + 1) (fun q => absurd q (by omega)) (fun _ => ?_)
      refine And.intro (by decide) ?_
      have er : nI t + nI (n + 1) - (nI t + nI (n + 1)) / nI 4 * nI 4 = nI ((t + (n + 1)) % 4) := by
        rw [nI_add]
        exact jn_rem (by omega) (by decide) (by decide)
      refine jx_cal (S_Sheet_frameFaults (t := (t + (n + 1)) % 4) hL (Nat.mod_lt _ (by decide))) (congrArg (fun z => [jR 3 p, jI z]) er) (fun q h2 hq => ?_)
      obtain ⟨rfl, rfl⟩ := hq
      have b1 := ftn_le D ((t + (n + 1)) % 4)
      have b2 := (ub_lt (F := ftn D) ht n).2
      have b3 := ftn_le D (ub (ftn D) t n).1
      refine pk_le (ub (ftn D) t n).2 (ftn D ((t + (n + 1)) % 4)) (fun q => ?_) (fun q => ?_) rfl rfl (by omega) (by omega)
      · refine jv_to (V := V) (ih (some (jI (nI ((t + (n + 1)) % 4)))) (some (jI (nI (ftn D ((t + (n + 1)) % 4)))))) ?_ rfl rfl
        rw [er, nI_add, show ub (ftn D) t (n + 1) = ub (ftn D) t n by rw [ub, if_neg (by omega)]]
        rfl
      · refine jv_to (V := V) (ih (some (jI (nI ((t + (n + 1)) % 4)))) (some (jI (nI (ftn D ((t + (n + 1)) % 4)))))) ?_ rfl rfl
        rw [er, nI_add, show ub (ftn D) t (n + 1) = ((t + (n + 1)) % 4, ftn D ((t + (n + 1)) % 4)) by rw [ub, if_pos q]]
        rfl)
  refine rule (Nat.beq 11) 20 0 _ _ _ ?_
  refine jx_cal (S_Sheet_frameFaults hL ht) rfl (fun q h2 hq => ?_)
  obtain ⟨rfl, rfl⟩ := hq
  exact loop 0 (by decide) none none
/-- whether the data tell a page -/
def tp (d : Nat → Nat) : Bool := decide (1 ≤ d 1) && (decide (d 1 ≤ 4) && (decide (d 0 ≤ d 1 + 1) && (decide (20 * d 1 < d 2 + 16 * d 3 + 20) && decide (d 2 + 16 * d 3 ≤ 20 * d 1))))
theorem S_Scan_tellsPage {d : Nat → Nat} {h : jxH} (hd : AR (h 12 0) 44 16 d) : jx_MW 60 [jR 11 0] h (fun r h' => r = nI (tp d).toNat ∧ h' = h) := by
  refine jx_MW_by [some (jR 11 0), none] (by decide) rfl (Nat.le_of_ble_eq_true rfl) (fun V rule => ?_)
  refine rule (fun _ => false) 60 0 _ _ _ ?_
  have d0 := hd.lt (show 0 < 44 by decide)
  have d1 := hd.lt (show 1 < 44 by decide)
  have d2 := hd.lt (show 2 < 44 by decide)
  have d3 := hd.lt (show 3 < 44 by decide)
  refine jx_cal (S_Scan_needed hd) rfl (fun q h2 hq => ?_)
  obtain ⟨rfl, rfl⟩ := hq
  refine jx_cal (S_Scan_needed hd) rfl (fun q h2 hq => ?_)
  obtain ⟨rfl, rfl⟩ := hq
  refine pk_lt (d 1) 1 (fun q => ?_) (fun q1 => ?_)
  · exact And.intro (Or.inl rfl) (And.intro (by simp [tp, show ¬ 1 ≤ d 1 by omega]) rfl)
  refine jx_cal (S_Scan_needed hd) rfl (fun q h2 hq => ?_)
  obtain ⟨rfl, rfl⟩ := hq
  refine pk_lt 4 (d 1) (fun q => ?_) (fun q2 => ?_)
  · exact And.intro (Or.inl rfl) (And.intro (by simp [tp, show ¬ d 1 ≤ 4 by omega]) rfl)
  refine jx_cal (S_Scan_number hd) rfl (fun q h2 hq => ?_)
  obtain ⟨rfl, rfl⟩ := hq
  refine jx_cal (S_Scan_needed hd) rfl (fun q h2 hq => ?_)
  obtain ⟨rfl, rfl⟩ := hq
  refine pk_lt (d 1 + 1) (d 0) (fun q => ?_) (fun q3 => ?_) (nI_add _ _) rfl
  · exact And.intro (Or.inl rfl) (And.intro (by simp [tp, show ¬ d 0 ≤ d 1 + 1 by omega]) rfl)
  refine jx_cal (S_Scan_length hd) rfl (fun q h2 hq => ?_)
  obtain ⟨rfl, rfl⟩ := hq
  have em : nI 20 * nI (d 1) - nI 20 = nI (20 * d 1 - 20) := by rw [pk_mul]; exact pk_sub (by omega)
  refine pk_le (d 2 + 16 * d 3) (20 * d 1 - 20) (fun q => ?_) (fun q4 => ?_) rfl em
  · exact And.intro (Or.inl rfl) (And.intro (by simp [tp, show ¬ 20 * d 1 < d 2 + 16 * d 3 + 20 by omega]) rfl)
  refine jx_cal (S_Scan_length hd) rfl (fun q h2 hq => ?_)
  obtain ⟨rfl, rfl⟩ := hq
  refine pk_lt (20 * d 1) (d 2 + 16 * d 3) (fun q => ?_) (fun q5 => ?_) (pk_mul _ _) rfl
  · exact And.intro (Or.inl rfl) (And.intro (by simp [tp, show ¬ d 2 + 16 * d 3 ≤ 20 * d 1 by omega]) rfl)
  · exact And.intro (Or.inr rfl) (And.intro (by simp [tp, q1, q2, q3, q5, show 20 * d 1 < d 2 + 16 * d 3 + 20 by omega]) rfl)
-- reading the rows
abbrev hS4 (h : jxH) (a b e d : Nat → Int32) : jxH := jx_st (jx_st (jx_st (jx_st h 7 1 a) 8 1 b) 13 0 e) 12 0 d
theorem hS4_7 (h : jxH) (a b e d f : Nat → Int32) : jx_st (hS4 h a b e d) 7 1 f = hS4 h f b e d := by
  unfold hS4
  rw [jx_sc (show 12 ≠ 7 by decide), jx_sc (show 13 ≠ 7 by decide), jx_sc (show 8 ≠ 7 by decide), jx_st_st]
theorem hS4_8 (h : jxH) (a b e d f : Nat → Int32) : jx_st (hS4 h a b e d) 8 1 f = hS4 h a f e d := by
  unfold hS4
  rw [jx_sc (show 12 ≠ 8 by decide), jx_sc (show 13 ≠ 8 by decide), jx_st_st]
theorem hS4_13 (h : jxH) (a b e d f : Nat → Int32) : jx_st (hS4 h a b e d) 13 0 f = hS4 h a b f d := by
  unfold hS4
  rw [jx_sc (show 12 ≠ 13 by decide), jx_st_st]
theorem hS4_12 (h : jxH) (a b e d f : Nat → Int32) : jx_st (hS4 h a b e d) 12 0 f = hS4 h a b e f := by
  unfold hS4
  rw [jx_st_st]
theorem hS4_id (h : jxH) : hS4 h (h 7 1) (h 8 1) (h 13 0) (h 12 0) = h := by
  unfold hS4
  rw [jx_st_id, jx_st_id, jx_st_id, jx_st_id]
/-- row r as read, page turned t times -/
def rw9 (D : Nat → Nat → Bool) (t r : Nat) : Nat → Nat := fun i => rdS (tu t D) (4 * i + r)
/-- whether the first n rows are words or can be made ones -/
def alw (D : Nat → Nat → Bool) (t : Nat) : Nat → Bool
  | 0 => true
  | n + 1 => alw D t n && decide (¬ (cor (rw9 D t n)).1 = -nI 1)
def rdd (D : Nat → Nat → Bool) (t : Nat) : Nat → Nat := fun k => (cor (rw9 D t (k / 11))).2 (4 + k % 11)
theorem S_Scan_readRows {p t : Nat} {D : Nat → Nat → Bool} {h : jxH} (hL : LN (h 4 p) D) (ht : t < 4) : jx_MW 102 [jR 11 0, jR 3 p, jI (nI t)] h (fun r h' => r = nI (alw D t 4).toNat ∧ ∃ a b e d, h' = hS4 h a b e d ∧ (∀ r, r < 4 → e r = (cor (rw9 D t r)).1) ∧ AR d 44 16 (rdd D t)) := by
  refine jx_MW_by [some (jR 11 0), some (jR 3 p), some (jI (nI t)), none, none] (by decide) rfl (Nat.le_of_ble_eq_true rfl) (fun V rule => ?_)
  have loop := jl_up (P := fun n => ∀ (a b e d : Nat → Int32), (∀ r, r < n → e r = (cor (rw9 D t r)).1) → (∀ k, k < 11 * n → d k = nI (rdd D t k) ∧ rdd D t k < 16) → V 5 [some (jR 11 0), some (jR 3 p), some (jI (nI t)), some (jI (nI (alw D t n).toNat)), some (jI (nI n))] [] (hS4 h a b e d)) 4
    (by
      intro a b e d he hd
      refine rule (fun _ => false) 10 5 _ _ _ ?_
      refine pk_le 4 4 (fun _ => ?_) (fun q => absurd q (Nat.lt_irrefl _))
      have b01 : nI (alw D t 4).toNat = nI 0 ∨ nI (alw D t 4).toNat = nI 1 := by cases alw D t 4; exact Or.inl rfl; exact Or.inr rfl
      exact And.intro b01 (And.intro rfl (Exists.intro a (Exists.intro b (Exists.intro e (Exists.intro d (And.intro rfl (And.intro he (fun k hk => hd k hk)))))))))
    (fun n hn ih => by
      intro a b e d he hd
      refine rule (Nat.beq 5) 60 5 _ _ _ ?_
      refine pk_le 4 n (fun q => absurd q (by omega)) (fun _ => ?_)
      have hL' : LN (hS4 h a b e d 4 p) D := hL
      refine jx_cal (S_Row_lift (w := 1) (r := n) hL' hn ht) rfl (fun q h2 hq => ?_)
      obtain ⟨a1, rfl, ga1⟩ := hq
      rw [hS4_7]
      have ga1' : AR (hS4 h a1 b e d 7 1) 15 16 (rw9 D t n) := ga1
      refine jx_cal (S_Row_correct ga1') rfl (fun q h2 hq => ?_)
      obtain ⟨rfl, a2, b2, rfl, ga2⟩ := hq
      rw [hS4_8, hS4_7]
      refine Exists.intro n (And.intro (And.intro hn rfl) ?_)
      rw [hS4_13]
      have ga2' : AR (hS4 h a2 b2 (upd e n (cor (rw9 D t n)).1) d 7 1) 15 16 (cor (rw9 D t n)).2 := ga2
      refine jx_cal (S_Row_giveData (d := fun _ => 0) (r := n) ga2' hn) rfl (fun q h2 hq => ?_)
      obtain ⟨d2, rfl, gd2⟩ := hq
      rw [hS4_12]
      have he2 : ∀ r, r < n + 1 → upd e n (cor (rw9 D t n)).1 r = (cor (rw9 D t r)).1 := fun r hr => by
        by_cases hrn : r = n
        · subst hrn; exact upd_same _ _ _
        · rw [upd_ne _ _ hrn]; exact he r (by omega)
      have hd2 : ∀ k, k < 11 * (n + 1) → d2 k = nI (rdd D t k) ∧ rdd D t k < 16 := fun k hk => by
        by_cases h9 : 11 * n ≤ k ∧ k < 11 * n + 11
        · have e1 : k / 11 = n := by omega
          have e2 : k - 11 * n = k % 11 := by omega
          rw [gd2 k, if_pos h9, e2]
          have e3 : rdd D t k = (cor (rw9 D t n)).2 (4 + k % 11) := by rw [rdd, e1]
          rw [e3]
          exact ⟨rfl, ga2.lt (by omega)⟩
        · rw [gd2 k, if_neg h9]
          exact hd k (by omega)
      have leaf := fun (c : Bool) (hc : alw D t (n + 1) = c) => jv_to (V := V) (ih a2 b2 (upd e n (cor (rw9 D t n)).1) d2 he2 hd2) (show [some (jR 11 0), some (jR 3 p), some (jI (nI t)), some (jI (nI c.toNat)), some (jI (nI n + nI 1))] = _ by rw [nI_add, hc]) rfl rfl
      refine pk_eq (alw D t n).toNat 0 (fun q => ?_) (fun q => ?_) rfl rfl (by have := toNat_le (alw D t n); omega) (by decide)
      · have e0 : alw D t n = false := by cases hd9 : alw D t n with
          | false => rfl
          | true => rw [hd9] at q; cases q
        exact leaf false (by rw [alw, e0]; rfl)
      · have e0 : alw D t n = true := by cases hd9 : alw D t n with
          | true => rfl
          | false => rw [hd9] at q; exact absurd rfl q
        refine Exists.intro n (And.intro (And.intro hn rfl) ?_)
        refine br_c (fun q1 => ?_) (fun q1 => ?_)
        · have ev : upd (hS4 h a2 b2 e d 13 0) n (cor (rw9 D t n)).1 n = (cor (rw9 D t n)).1 := upd_same _ _ _
          have q2 : (cor (rw9 D t n)).1 = -nI 1 := ev.symm.trans q1
          exact leaf false (by rw [alw, e0, q2]; decide)
        · have ev : upd (hS4 h a2 b2 e d 13 0) n (cor (rw9 D t n)).1 n = (cor (rw9 D t n)).1 := upd_same _ _ _
          have q2 : ¬ (cor (rw9 D t n)).1 = -nI 1 := fun z => q1 (ev.trans z)
          exact leaf true (by rw [alw, e0]; simp [q2]))
  refine rule (Nat.beq 5) 10 0 _ _ _ ?_
  exact jv_to (V := V) (loop 0 (Nat.zero_le _) (h 7 1) (h 8 1) (h 13 0) (h 12 0) (fun r hr => absurd hr (Nat.not_lt_zero _)) (fun k hk => absurd hk (Nat.not_lt_zero _))) rfl rfl (hS4_id h).symm
/-- what read does: with nothing readable, or the rows and what they tell -/
def rdT (D : Nat → Nat → Bool) (t : Nat) : Nat := (ub (ftn D) t 3).1
theorem S_Scan_read {p t : Nat} {D : Nat → Nat → Bool} {h : jxH} (hL : LN (h 4 p) D) (ht : t < 4) : jx_MW 109 [jR 11 0, jR 3 p, jI (nI t)] h (fun r h' => ∃ a b e d, h' = hS4 h a b e d ∧
    ((8 < ftn D (rdT D t) ∧ r = nI 0 ∧ (∀ r, r < 4 → e r = -nI 2)) ∨ (ftn D (rdT D t) ≤ 8 ∧ r = nI (alw D (rdT D t) 4 && tp (rdd D (rdT D t))).toNat ∧ (∀ r, r < 4 → e r = (cor (rw9 D (rdT D t) r)).1) ∧ AR d 44 16 (rdd D (rdT D t))))) := by
  refine jx_MW_by [some (jR 11 0), some (jR 3 p), some (jI (nI t)), none] (by decide) rfl (Nat.le_of_ble_eq_true rfl) (fun V rule => ?_)
  refine rule (fun _ => false) 40 0 _ _ _ ?_
  refine jx_cal (S_Scan_uprightTurns hL ht) rfl (fun q h2 hq => ?_)
  obtain ⟨rfl, rfl⟩ := hq
  have hT : rdT D t < 4 := (ub_lt ht 3).1
  refine jx_cal (S_Sheet_frameFaults (t := rdT D t) hL hT) rfl (fun q h2 hq => ?_)
  obtain ⟨rfl, rfl⟩ := hq
  have b1 := ftn_le D (rdT D t)
  refine pk_le (ftn D (rdT D t)) 8 (fun q => ?_) (fun q => ?_) rfl rfl (by omega) (by decide)
  · refine jx_cal (S_Scan_readRows (t := rdT D t) hL hT) rfl (fun r h3 hq => ?_)
    obtain ⟨rfl, a, b, e, d, rfl, he, hd⟩ := hq
    refine pk_eq (alw D (rdT D t) 4).toNat 0 (fun q1 => ?_) (fun q1 => ?_) rfl rfl (by have := toNat_le (alw D (rdT D t) 4); omega) (by decide)
    · have e0 : alw D (rdT D t) 4 = false := by cases hd9 : alw D (rdT D t) 4 with
        | false => rfl
        | true => rw [hd9] at q1; cases q1
      refine And.intro (Or.inl rfl) (Exists.intro a (Exists.intro b (Exists.intro e (Exists.intro d (And.intro rfl (Or.inr (And.intro q (And.intro ?_ (And.intro he hd)))))))))
      rw [e0]
      rfl
    · have e0 : alw D (rdT D t) 4 = true := by cases hd9 : alw D (rdT D t) 4 with
        | true => rfl
        | false => rw [hd9] at q1; exact absurd rfl q1
      have hd' : AR (hS4 h2 a b e d 12 0) 44 16 (rdd D (rdT D t)) := hd
      refine jx_cal (S_Scan_tellsPage hd') rfl (fun r h3 hq => ?_)
      obtain ⟨rfl, rfl⟩ := hq
      refine pk_eq (tp (rdd D (rdT D t))).toNat 0 (fun q2 => ?_) (fun q2 => ?_) rfl rfl (by have := toNat_le (tp (rdd D (rdT D t))); omega) (by decide)
      · have e1 : tp (rdd D (rdT D t)) = false := by cases hd9 : tp (rdd D (rdT D t)) with
          | false => rfl
          | true => rw [hd9] at q2; cases q2
        refine And.intro (Or.inl rfl) (Exists.intro a (Exists.intro b (Exists.intro e (Exists.intro d (And.intro rfl (Or.inr (And.intro q (And.intro ?_ (And.intro he hd)))))))))
        rw [e0, e1]
        rfl
      · have e1 : tp (rdd D (rdT D t)) = true := by cases hd9 : tp (rdd D (rdT D t)) with
          | true => rfl
          | false => rw [hd9] at q2; exact absurd rfl q2
        refine And.intro (Or.inr rfl) (Exists.intro a (Exists.intro b (Exists.intro e (Exists.intro d (And.intro rfl (Or.inr (And.intro q (And.intro ?_ (And.intro he hd)))))))))
        rw [e0, e1]
        rfl
  · refine jx_cal S_Scan_forgetErrors rfl (fun r h3 hq => ?_)
    obtain ⟨f, rfl, hf⟩ := hq
    refine And.intro (Or.inl rfl) (Exists.intro (h2 7 1) (Exists.intro (h2 8 1) (Exists.intro f (Exists.intro (h2 12 0) (And.intro ?_ (Or.inl (And.intro q (And.intro rfl hf))))))))
    rw [← hS4_13 h2 (h2 7 1) (h2 8 1) (h2 13 0) (h2 12 0) f, hS4_id]
