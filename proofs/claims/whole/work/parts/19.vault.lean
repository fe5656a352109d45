/-! DotVault: its own methods. A method that may throw is said by its body alone (jx_BD): E where it returns, TH where it throws. -/
def jx_BD (κ : Nat) (as : List jxV) (h : jxH) (E : Int32 → jxH → Prop) (TH : Nat → jxH → Prop) : Prop :=
  ∀ V : Nat → jxL → List jxV → jxH → Prop, (∀ (cut : Nat → Bool) (n pc : Nat) (ls : jxL) (st : List jxV) (h : jxH), jx_blk κ cut V E TH n pc ls st h → V pc ls st h) → V 0 (as.map some ++ List.replicate (jx_mx κ - as.length) none) [] h
theorem jx_BD_by {κ : Nat} {as : List jxV} {h : jxH} {E : Int32 → jxH → Prop} {TH : Nat → jxH → Prop} (ls : jxL) (hls : as.map some ++ List.replicate (jx_mx κ - as.length) none = ls)
    (body : ∀ V : Nat → jxL → List jxV → jxH → Prop, (∀ (cut : Nat → Bool) (n pc : Nat) (ls : jxL) (st : List jxV) (h : jxH), jx_blk κ cut V E TH n pc ls st h → V pc ls st h) → V 0 ls [] h) : jx_BD κ as h E TH := by
  intro V rule
  rw [hls]
  exact body V rule
theorem S_V_wipe {h : jxH} : jx_MW 3 [jR 0 0] h (fun r h' => r = h 0 0 1 ∧ h' = jx_st h 0 0 (upd (h 0 0) 1 (nI 0))) := by
  refine jx_MW_by [some (jR 0 0), none] (by decide) rfl (Nat.le_of_ble_eq_true rfl) (fun V rule => ?_)
  refine rule (fun _ => false) 20 0 _ _ _ ?_
  exact And.intro rfl rfl
theorem S_V_missing {kp : Nat} {h : jxH} (hk : h 14 0 2 = nI kp) (hk9 : kp < 100) : jx_MW 47 [jR 0 0] h (fun r h' => r = (if kp = 0 then -nI 1 else h 14 0 3 + nI 2 - nI kp) ∧ h' = h) := by
  refine jx_MW_by [some (jR 0 0)] (by decide) rfl (Nat.le_of_ble_eq_true rfl) (fun V rule => ?_)
  refine rule (fun _ => false) 20 0 _ _ _ ?_
  exact jx_cal (S_Rd_lacking hk hk9) rfl (fun r h' z => z)
theorem S_V_reset {h : jxH} : jx_MW 49 [jR 0 0] h (fun r h' => r = h 14 0 2 ∧ ∃ f, h' = jx_st (jx_st h 14 0 (upd (upd (h 14 0) 2 (nI 0)) 6 (nI 0))) 17 0 f ∧ BA f 6 (fun _ => false)) := by
  refine jx_MW_by [some (jR 0 0)] (by decide) rfl (Nat.le_of_ble_eq_true rfl) (fun V rule => ?_)
  refine rule (fun _ => false) 20 0 _ _ _ ?_
  exact jx_cal S_Rd_forget rfl (fun r h' z => z)
/-- a page that is printed -/
def hp9 (pg : Int32) (P : Nat) : Bool := decide (¬ pg < 0) && decide (pg < nI P)
theorem hp9_t {pg : Int32} {P : Nat} (hP : P < 2 ^ 31) (h : hp9 pg P = true) : ∃ j, j < P ∧ pg = nI j := by
  simp only [hp9, Bool.and_eq_true, decide_eq_true_eq] at h
  obtain ⟨j, hj, rfl⟩ := nI_of h.1
  exact ⟨j, (nI_ltI hj hP).mp h.2, rfl⟩
theorem hp9_n {j P : Nat} (hj : j < P) (hP : P < 2 ^ 31) : hp9 (nI j) P = true := by
  simp only [hp9, Bool.and_eq_true, decide_eq_true_eq]
  exact ⟨nI_pos (by omega), (nI_ltI (by omega) hP).mpr hj⟩
theorem S_V_hasPage {pg : Int32} {P : Nat} {h : jxH} (hP : h 0 0 3 = nI P) : jx_MW 1 [jR 0 0, jI pg] h (fun r h' => r = nI (hp9 pg P).toNat ∧ h' = h) := by
  refine jx_MW_by [some (jR 0 0), some (jI pg)] (by decide) rfl (Nat.le_of_ble_eq_true rfl) (fun V rule => ?_)
  refine rule (fun _ => false) 20 0 _ _ _ ?_
  refine br_c (fun q => ?_) (fun q => ?_)
  · exact And.intro (Or.inl rfl) (And.intro (by simp [hp9, q]) rfl)
  · refine br_c (fun q1 => ?_) (fun q1 => ?_)
    · have q2 : ¬ pg < nI P := by rw [← hP]; exact Int32.not_lt.mpr q1
      exact And.intro (Or.inl rfl) (And.intro (by simp [hp9, q2]) rfl)
    · have q2 : pg < nI P := by rw [← hP]; exact Int32.not_le.mp q1
      exact And.intro (Or.inr rfl) (And.intro (by simp [hp9, q, q2]) rfl)
def hd9 (pg x y : Int32) (P : Nat) : Bool := hp9 pg P && (hp9 x 18 && hp9 y 18)
theorem S_V_hasDot {pg x y : Int32} {P : Nat} {h : jxH} (hP : h 0 0 3 = nI P) : jx_MW 46 [jR 0 0, jI pg, jI x, jI y] h (fun r h' => r = nI (hd9 pg x y P).toNat ∧ h' = h) := by
  refine jx_MW_by [some (jR 0 0), some (jI pg), some (jI x), some (jI y)] (by decide) rfl (Nat.le_of_ble_eq_true rfl) (fun V rule => ?_)
  refine rule (fun _ => false) 40 0 _ _ _ ?_
  refine jx_cal (S_V_hasPage hP) rfl (fun r h2 hq => ?_)
  obtain ⟨rfl, rfl⟩ := hq
  refine pk_eq (hp9 pg P).toNat 0 (fun q => ?_) (fun q => ?_) rfl rfl (by have := toNat_le (hp9 pg P); omega) (by decide)
  · exact And.intro (Or.inl rfl) (And.intro (by simp [hd9, tn0 q]) rfl)
  refine br_c (fun q1 => ?_) (fun q1 => ?_)
  · exact And.intro (Or.inl rfl) (And.intro (by simp [hd9, hp9, q1]) rfl)
  refine br_c (fun q2 => ?_) (fun q2 => ?_)
  · have e : ¬ x < nI 18 := Int32.not_lt.mpr q2
    exact And.intro (Or.inl rfl) (And.intro (by simp [hd9, hp9, e]) rfl)
  refine br_c (fun q3 => ?_) (fun q3 => ?_)
  · exact And.intro (Or.inl rfl) (And.intro (by simp [hd9, hp9, q3]) rfl)
  refine br_c (fun q4 => ?_) (fun q4 => ?_)
  · have e : ¬ y < nI 18 := Int32.not_lt.mpr q4
    exact And.intro (Or.inl rfl) (And.intro (by simp [hd9, hp9, e]) rfl)
  · have e1 : x < nI 18 := Int32.not_le.mp q2
    have e2 : y < nI 18 := Int32.not_le.mp q4
    have e3 : hp9 x 18 = true := by simp [hp9, q1, e1]
    have e4 : hp9 y 18 = true := by simp [hp9, q3, e2]
    exact And.intro (Or.inr rfl) (And.intro (by rw [hd9, tn1 q, e3, e4]; rfl) rfl)
/-- symbol m of the document's page k -/
def ds (dc : Nat → Nat) (len k m : Nat) : Nat := if k * 20 + m / 2 < len then (if m % 2 = 0 then dc (k * 20 + m / 2) % 16 else dc (k * 20 + m / 2) / 16) else 0
theorem ds_lt {dc : Nat → Nat} {len k m : Nat} (hl : len ≤ 80) (hdc : ∀ i, i < 80 → dc i < 256) : ds dc len k m < 16 := by
  unfold ds
  split
  · rename_i h1
    have h2 := hdc (k * 20 + m / 2) (by omega)
    split
    · exact Nat.mod_lt _ (by decide)
    · omega
  · decide
theorem S_V_documentSymbol {k m len : Nat} {dc : Nat → Nat} {h : jxH} (hl : h 0 0 1 = nI len) (hl9 : len ≤ 80) (hd : AR (h 1 0) 80 256 dc) (hk : k < 10) (hm : m < 40) : jx_MW 0 [jR 0 0, jI (nI k), jI (nI m)] h (fun r h' => r = nI (ds dc len k m) ∧ h' = h) := by
  refine jx_MW_by [some (jR 0 0), some (jI (nI k)), some (jI (nI m)), none] (by decide) rfl (Nat.le_of_ble_eq_true rfl) (fun V rule => ?_)
  refine rule (fun _ => false) 40 0 _ _ _ ?_
  refine And.intro (by decide) ?_
  have ep : nI k * nI 20 + nI m / nI 2 = nI (k * 20 + m / 2) := by rw [pk_mul, pk_div (by omega) (by decide) (by decide), nI_add]
  refine pk_lt (k * 20 + m / 2) len (fun q => ?_) (fun q => ?_) ep hl
  · refine And.intro (by decide) ?_
    have hdl := hd.lt (show k * 20 + m / 2 < 80 by omega)
    have hda := hd.at (show k * 20 + m / 2 < 80 by omega)
    refine pk_eq (m % 2) 0 (fun q1 => ?_) (fun q1 => ?_) (jn_rem (by omega) (by decide) (by decide)) rfl
    · refine Exists.intro (k * 20 + m / 2) (And.intro (And.intro (by omega) ep) ?_)
      refine And.intro (by decide) (And.intro ?_ rfl)
      rw [hda, ds, if_pos q, if_pos q1]
      exact jn_rem (by omega) (by decide) (by decide)
    · refine Exists.intro (k * 20 + m / 2) (And.intro (And.intro (by omega) ep) ?_)
      refine And.intro (by decide) (And.intro ?_ rfl)
      rw [hda, ds, if_pos q, if_neg q1]
      exact pk_div (by omega) (by decide) (by decide)
  · refine And.intro ?_ rfl
    rw [ds, if_neg (by omega)]
/-- symbol m of page pg's payload, n pages needed -/
def pv (dc : Nat → Nat) (len n pg m : Nat) : Nat := if pg < n then ds dc len pg m else if pg = n then xs (fun k => ds dc len k m) n else xs (wt (fun k => ds dc len k m)) n
def dta (dc : Nat → Nat) (len n pg : Nat) : Nat → Nat := fun k => if k = 0 then pg else if k = 1 then n else if k = 2 then len % 16 else if k = 3 then len / 16 else pv dc len n pg (k - 4)
theorem pv_lt {dc : Nat → Nat} {len n pg m : Nat} (hl : len ≤ 80) (hdc : ∀ i, i < 80 → dc i < 256) : pv dc len n pg m < 16 := by
  unfold pv
  split
  · exact ds_lt hl hdc
  · split
    · exact xs_lt (fun _ _ => ds_lt hl hdc)
    · exact xs_lt (fun _ _ => gf_ml_lt _ _)
theorem S_V_writeData {pg n len : Nat} {dc s0 : Nat → Nat} {h : jxH} (hl : h 0 0 1 = nI len) (hl9 : len ≤ 80) (hd : AR (h 1 0) 80 256 dc) (hc : AR (h 10 0) 6 16 s0) (hn : n ≤ 4) (hpg : pg ≤ n + 1) : jx_MW 92 [jR 0 0, jI (nI pg), jI (nI n)] h (fun _ h' => ∃ f c s1, h' = jx_st (jx_st h 5 0 f) 10 0 c ∧ AR f 44 16 (dta dc len n pg) ∧ AR c 6 16 s1) := by
  refine jx_MW_by [some (jR 0 0), some (jI (nI pg)), some (jI (nI n)), none, none] (by decide) rfl (Nat.le_of_ble_eq_true rfl) (fun V rule => ?_)
  have hdc : ∀ i, i < 80 → dc i < 256 := fun i hi => hd.lt hi
  have loop := jl_up (P := fun m => ∀ (o : Option jxV) (f c : Nat → Int32) (s1 : Nat → Nat), AR c 6 16 s1 → (∀ k, k < 4 + m → f k = nI (dta dc len n pg k)) → V 42 [some (jR 0 0), some (jI (nI pg)), some (jI (nI n)), some (jI (nI m)), o] [] (jx_st (jx_st h 5 0 f) 10 0 c)) 40
    (by
      intro o f c s1 hc1 hf
      refine rule (fun _ => false) 10 42 _ _ _ ?_
      refine pk_le 40 40 (fun _ => ?_) (fun q => absurd q (Nat.lt_irrefl _))
      refine Exists.intro f (Exists.intro c (Exists.intro s1 (And.intro rfl (And.intro (fun k hk => ⟨hf k hk, ?_⟩) hc1))))
      unfold dta
      split
      · omega
      split
      · omega
      split
      · exact Nat.mod_lt _ (by decide)
      split
      · omega
      exact pv_lt hl9 hdc)
    (fun m hm ih => by
      intro o f c s1 hc1 hf
      have inner := jl_up (P := fun k => ∀ (c : Nat → Int32) (s1 : Nat → Nat), AR c 6 16 s1 → (∀ i, i < k → s1 i = ds dc len i m) → V 51 [some (jR 0 0), some (jI (nI pg)), some (jI (nI n)), some (jI (nI m)), some (jI (nI k))] [] (jx_st (jx_st h 5 0 f) 10 0 c)) n
        (by
          intro c s1 hc1 hk
          refine rule (Nat.beq 42) 40 51 _ _ _ ?_
          refine pk_le n n (fun _ => ?_) (fun q => absurd q (Nat.lt_irrefl _))
          have hc1' : AR (jx_st (jx_st h 5 0 f) 10 0 c 10 0) 6 16 s1 := hc1
          refine jx_cal (S_Col_addSpares hc1' hn) rfl (fun r h2 hq => ?_)
          obtain ⟨c2, rfl, hc2⟩ := hq
          rw [jx_st_st]
          have hc2' : AR (jx_st (jx_st h 5 0 f) 10 0 c2 10 0) 6 16 _ := hc2
          refine jx_cal (S_Col_get hc2' (show pg < 6 by omega)) rfl (fun r h2 hq => ?_)
          obtain ⟨rfl, rfl⟩ := hq
          refine Exists.intro (4 + m) (And.intro (And.intro (by omega) (nI_add 4 m)) ?_)
          have ev : nup (nup s1 n (xs s1 n)) (n + 1) (xs (wt s1) n) pg = pv dc len n pg m := by
            have e1 : xs s1 n = xs (fun k => ds dc len k m) n := xs_congr (fun k hkn => hk k hkn)
            have e2 : xs (wt s1) n = xs (wt (fun k => ds dc len k m)) n := xs_congr (fun k hkn => by unfold wt; rw [hk k hkn])
            unfold pv
            by_cases p1 : pg < n
            · rw [nup_ne _ _ (by omega), nup_ne _ _ (by omega), hk pg p1, if_pos p1]
            · by_cases p2 : pg = n
              · rw [nup_ne _ _ (by omega), p2, nup_same, e1, if_neg (by omega), if_pos rfl]
              · rw [show pg = n + 1 by omega, nup_same, e2, if_neg (by omega), if_neg (by omega)]
          rw [ev]
          refine jv_to (V := V) (ih (some (jI (nI n))) (upd f (4 + m) (nI (pv dc len n pg m))) c2 _ hc2 (fun k hk9 => ?_)) (by rw [nI_add]) rfl ?_
          · by_cases hk4 : k = 4 + m
            · subst hk4
              rw [upd_same]
              unfold dta
              rw [if_neg (by omega), if_neg (by omega), if_neg (by omega), if_neg (by omega), Nat.add_sub_cancel_left]
            · rw [upd_ne _ _ hk4]
              exact hf k (by omega)
          · rw [jx_sc (show 10 ≠ 5 by decide), jx_st_st]
            rfl)
        (fun k hk ih2 => by
          intro c s1 hc1 hs
          refine rule (Nat.beq 51) 40 51 _ _ _ ?_
          refine pk_le n k (fun q => absurd q (by omega)) (fun _ => ?_)
          have hl' : jx_st (jx_st h 5 0 f) 10 0 c 0 0 1 = nI len := hl
          have hd' : AR (jx_st (jx_st h 5 0 f) 10 0 c 1 0) 80 256 dc := hd
          refine jx_cal (S_V_documentSymbol (k := k) (m := m) hl' hl9 hd' (by omega) hm) rfl (fun r h2 hq => ?_)
          obtain ⟨rfl, rfl⟩ := hq
          refine jx_cal (S_Col_set (show k < 6 by omega)) rfl (fun r h2 hq => ?_)
          subst hq
          refine jv_to (V := V) (ih2 (upd c k (nI (ds dc len k m))) (nup s1 k (ds dc len k m)) (hc1.put (ds_lt hl9 hdc)) (fun i hi => ?_)) (by rw [nI_add]) rfl (by rw [jx_st_same, jx_st_st])
          by_cases hik : i = k
          · subst hik; exact nup_same _ _ _
          · rw [nup_ne _ _ hik]; exact hs i (by omega))
      refine rule (Nat.beq 51) 20 42 _ _ _ ?_
      refine pk_le 40 m (fun q => absurd q (by omega)) (fun _ => ?_)
      exact inner 0 (Nat.zero_le _) c s1 hc1 (fun i hi => absurd hi (Nat.not_lt_zero _)))
  refine rule (Nat.beq 42) 60 0 _ _ _ ?_
  refine Exists.intro 0 (And.intro (And.intro (by decide) rfl) ?_)
  refine Exists.intro 1 (And.intro (And.intro (by decide) rfl) ?_)
  refine And.intro (by decide) ?_
  refine Exists.intro 2 (And.intro (And.intro (by decide) rfl) ?_)
  refine And.intro (by decide) ?_
  refine Exists.intro 3 (And.intro (And.intro (by decide) rfl) ?_)
  refine jv_to (V := V) (loop 0 (Nat.zero_le _) none (upd (upd (upd (upd (h 5 0) 0 (nI pg)) 1 (nI n)) 2 (nI (len % 16))) 3 (nI (len / 16))) (h 10 0) s0 hc (fun k hk => ?_)) rfl rfl ?_
  · rcases (show k = 0 ∨ k = 1 ∨ k = 2 ∨ k = 3 by omega) with rfl | rfl | rfl | rfl <;> rfl
  · have e2 : nI len - nI len / nI 16 * nI 16 = nI (len % 16) := jn_rem (by omega) (by decide) (by decide)
    have e3 : nI len / nI 16 = nI (len / 16) := pk_div (by omega) (by decide) (by decide)
    have x1 : jx_st (jx_st (jx_st h 5 0 (upd (h 5 0) 0 (nI pg))) 5 0 (upd (jx_st h 5 0 (upd (h 5 0) 0 (nI pg)) 5 0) 1 (nI n))) 5 0 (upd (jx_st (jx_st h 5 0 (upd (h 5 0) 0 (nI pg))) 5 0 (upd (jx_st h 5 0 (upd (h 5 0) 0 (nI pg)) 5 0) 1 (nI n)) 5 0) 2 (h 0 0 1 - h 0 0 1 / nI 16 * nI 16)) = jx_st h 5 0 (upd (upd (upd (h 5 0) 0 (nI pg)) 1 (nI n)) 2 (h 0 0 1 - h 0 0 1 / nI 16 * nI 16)) := by
      rw [jx_st_st, jx_st_st, jx_st_same, jx_st_same]
    show jx_st (jx_st (jx_st (jx_st h 5 0 (upd (h 5 0) 0 (nI pg))) 5 0 (upd (jx_st h 5 0 (upd (h 5 0) 0 (nI pg)) 5 0) 1 (nI n))) 5 0 (upd (jx_st (jx_st h 5 0 (upd (h 5 0) 0 (nI pg))) 5 0 (upd (jx_st h 5 0 (upd (h 5 0) 0 (nI pg)) 5 0) 1 (nI n)) 5 0) 2 (h 0 0 1 - h 0 0 1 / nI 16 * nI 16))) 5 0 (upd (jx_st (jx_st (jx_st h 5 0 (upd (h 5 0) 0 (nI pg))) 5 0 (upd (jx_st h 5 0 (upd (h 5 0) 0 (nI pg)) 5 0) 1 (nI n))) 5 0 (upd (jx_st (jx_st h 5 0 (upd (h 5 0) 0 (nI pg))) 5 0 (upd (jx_st h 5 0 (upd (h 5 0) 0 (nI pg)) 5 0) 1 (nI n)) 5 0) 2 (h 0 0 1 - h 0 0 1 / nI 16 * nI 16)) 5 0) 3 (h 0 0 1 / nI 16)) = _
    rw [x1, jx_st_same, jx_st_st, hl, e2, e3]
    exact (jx_st_id (jx_st h 5 0 (upd (upd (upd (upd (h 5 0) 0 (nI pg)) 1 (nI n)) 2 (nI (len % 16))) 3 (nI (len / 16)))) 10 0).symm
