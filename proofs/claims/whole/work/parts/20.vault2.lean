/-! DotVault: drawing a sheet, and the calls. -/
theorem cq_congr {s t : Nat → Nat} (h : ∀ k, 4 ≤ k → k < 15 → s k = t k) : ∀ n, n ≤ 11 → cq s n = cq t n
  | 0, _ => rfl
  | n + 1, hn => by rw [cq_succ, cq_succ, cq_congr h n (by omega), h (14 - n) (by omega) (by omega)]
theorem cpn_congr {s t : Nat → Nat} (h : ∀ k, 4 ≤ k → k < 15 → s k = t k) {k : Nat} (hk : k < 15) : cpn s 11 k = cpn t 11 k := by
  unfold cpn
  rw [cq_congr h 11 (Nat.le_refl _)]
  by_cases k0 : k = 0
  · simp [k0]
  by_cases k1 : k = 1
  · simp [k1]
  by_cases k2 : k = 2
  · simp [k2]
  by_cases k3 : k = 3
  · simp [k3]
  simp only [k0, k1, k2, k3, if_false]
  exact h k (by omega) hk
/-- row r of the data d, made a word -/
def wd9 (d : Nat → Nat) (r : Nat) : Nat → Nat := cpn (fun k => d (11 * r + (k - 4))) 11
noncomputable def pgD (d : Nat → Nat) : Nat → Nat → Nat → Bool
  | 0 => fun a b => if edge a b = true then fr a b else false
  | r + 1 => dr (pgD d r) (wd9 d r) r 15
theorem S_V_drawSheet {p : Nat} {d s0 : Nat → Nat} {h : jxH} (hd : AR (h 5 0) 44 16 d) (hs : AR (h 7 0) 15 16 s0) : jx_MW 101 [jR 0 0, jR 3 p] h (fun _ h' => ∃ f a s1, h' = jx_st (jx_st h 4 p f) 7 0 a ∧ LN f (pgD d 4) ∧ AR a 15 16 s1) := by
  refine jx_MW_by [some (jR 0 0), some (jR 3 p), none] (by decide) rfl (Nat.le_of_ble_eq_true rfl) (fun V rule => ?_)
  have loop := jl_up (P := fun r => ∀ (f a : Nat → Int32) (s1 : Nat → Nat), LN f (pgD d r) → AR a 15 16 s1 → V 10 [some (jR 0 0), some (jR 3 p), some (jI (nI r))] [] (jx_st (jx_st h 4 p f) 7 0 a)) 4
    (by
      intro f a s1 hf ha
      refine rule (fun _ => false) 10 10 _ _ _ ?_
      refine pk_le 4 4 (fun _ => ?_) (fun q => absurd q (Nat.lt_irrefl _))
      exact Exists.intro f (Exists.intro a (Exists.intro s1 (And.intro rfl (And.intro hf ha)))))
    (fun r hr ih => by
      intro f a s1 hf ha
      refine rule (Nat.beq 10) 40 10 _ _ _ ?_
      refine pk_le 4 r (fun q => absurd q (by omega)) (fun _ => ?_)
      have ha' : AR (jx_st (jx_st h 4 p f) 7 0 a 7 0) 15 16 s1 := ha
      have hd' : AR (jx_st (jx_st h 4 p f) 7 0 a 5 0) 44 16 d := hd
      refine jx_cal (S_Row_takeData ha' hd' hr) rfl (fun q h2 hq => ?_)
      obtain ⟨a2, rfl, ha2⟩ := hq
      rw [jx_st_st]
      have ha2' : AR (jx_st (jx_st h 4 p f) 7 0 a2 7 0) 15 16 _ := ha2
      refine jx_cal (S_Row_complete ha2') rfl (fun q h2 hq => ?_)
      obtain ⟨a3, rfl, ha3⟩ := hq
      rw [jx_st_st]
      have ha3' : AR (jx_st (jx_st h 4 p f) 7 0 a3 7 0) 15 16 (wd9 d r) := AR.congr (f := a3) ha3 (fun k hk => (cpn_congr (fun i h4 h15 => by simp [h4]) hk).symm)
      have hf' : LN (jx_st (jx_st h 4 p f) 7 0 a3 4 p) (pgD d r) := by
        show LN (jx_st h 4 p f 4 p) (pgD d r)
        rw [jx_st_same]
        exact hf
      refine jx_cal (S_Row_draw ha3' hf' hr) rfl (fun q h2 hq => ?_)
      obtain ⟨f2, rfl, hf2⟩ := hq
      rw [jx_sc (show 7 ≠ 4 by decide), jx_st_st]
      exact jv_to (V := V) (ih f2 a3 _ hf2 ha3) (by rw [nI_add]) rfl rfl)
  refine rule (Nat.beq 10) 20 0 _ _ _ ?_
  refine jx_cal S_Sheet_whiten rfl (fun q h2 hq => ?_)
  obtain ⟨f0, rfl, hf0⟩ := hq
  refine jx_cal (S_Sheet_drawFrame (hf0.st h p)) rfl (fun q h2 hq => ?_)
  obtain ⟨f1, rfl, hf1⟩ := hq
  rw [jx_st_st]
  exact jv_to (V := V) (loop 0 (Nat.zero_le _) f1 (h 7 0) s0 hf1 hs) rfl rfl (jx_st_id (jx_st h 4 p f1) 7 0).symm
-- the calls
theorem B_V_load {b : Int32} {len : Nat} {h : jxH} (hl : h 0 0 1 = nI len) (hl9 : len ≤ 80) : jx_BD 2 [jR 0 0, jI b] h
    (fun r h' => (¬ b < 0 ∧ b ≤ nI 255) ∧ len < 80 ∧ r = nI (len + 1) ∧ h' = jx_st (jx_st h 1 0 (upd (h 1 0) len b)) 0 0 (upd (h 0 0) 1 (nI (len + 1))))
    (fun x h' => h' = h ∧ ((x = 0 ∧ ¬ (¬ b < 0 ∧ b ≤ nI 255)) ∨ (x = 1 ∧ (¬ b < 0 ∧ b ≤ nI 255) ∧ len = 80))) := by
  refine jx_BD_by [some (jR 0 0), some (jI b)] rfl (fun V rule => ?_)
  refine rule (fun _ => false) 40 0 _ _ _ ?_
  refine br_c (fun q => ?_) (fun q => ?_)
  · exact And.intro rfl (Or.inl (And.intro rfl (fun z => z.1 q)))
  · refine br_c (fun q1 => ?_) (fun q1 => ?_)
    · refine pk_lt len 80 (fun q2 => ?_) (fun q2 => ?_) hl rfl
      · refine Exists.intro len (And.intro (And.intro q2 hl) ?_)
        refine And.intro ⟨q, q1⟩ (And.intro q2 (And.intro ?_ ?_))
        · show h 0 0 1 + nI 1 = _
          rw [hl, nI_add]
        · show jx_st (jx_st h 1 0 (upd (h 1 0) len b)) 0 0 (upd (h 0 0) 1 (h 0 0 1 + nI 1)) = _
          rw [hl, nI_add]
      · exact And.intro rfl (Or.inr (And.intro rfl (And.intro ⟨q, q1⟩ (by omega))))
    · exact And.intro rfl (Or.inl (And.intro rfl (fun z => q1 z.2)))
theorem B_V_errors {r : Int32} {h : jxH} : jx_BD 45 [jR 0 0, jI r] h (fun q h' => hp9 r 4 = true ∧ (∀ j, j < 4 → r = nI j → q = h 13 0 j) ∧ h' = h) (fun x h' => h' = h ∧ x = 0 ∧ hp9 r 4 = false) := by
  refine jx_BD_by [some (jR 0 0), some (jI r)] rfl (fun V rule => ?_)
  refine rule (fun _ => false) 40 0 _ _ _ ?_
  refine br_c (fun q => ?_) (fun q => ?_)
  · exact And.intro rfl (And.intro rfl (by simp [hp9, q]))
  · refine br_c (fun q1 => ?_) (fun q1 => ?_)
    · have e : hp9 r 4 = true := by
        have q2 : r < nI 4 := q1
        simp [hp9, q, q2]
      obtain ⟨j, hj, rfl⟩ := hp9_t (by decide) e
      refine jx_cal (S_Scan_errorsOf hj) rfl (fun z h2 hq => ?_)
      obtain ⟨rfl, rfl⟩ := hq
      refine And.intro e (And.intro (fun j2 hj2 ej => ?_) rfl)
      rw [jn_inj (by omega) (by omega) ej]
    · have q2 : ¬ r < nI 4 := q1
      exact And.intro rfl (And.intro rfl (by simp [hp9, q2]))
theorem B_V_out {i : Int32} {rl : Nat} {h : jxH} (hr : h 14 0 6 = nI rl) (hr9 : rl ≤ 80) : jx_BD 48 [jR 0 0, jI i] h (fun q h' => hp9 i rl = true ∧ (∀ j, j < rl → i = nI j → q = h 18 0 j) ∧ h' = h) (fun x h' => h' = h ∧ x = 2 ∧ hp9 i rl = false) := by
  refine jx_BD_by [some (jR 0 0), some (jI i)] rfl (fun V rule => ?_)
  refine rule (fun _ => false) 40 0 _ _ _ ?_
  refine br_c (fun q => ?_) (fun q => ?_)
  · exact And.intro rfl (And.intro rfl (by simp [hp9, q]))
  · refine jx_cal S_Rd_rebuiltLength rfl (fun z h2 hq => ?_)
    obtain ⟨rfl, rfl⟩ := hq
    refine br_c (fun q1 => ?_) (fun q1 => ?_)
    · have e : hp9 i rl = true := by
        have q2 : i < nI rl := by rw [← hr]; exact q1
        simp [hp9, q, q2]
      obtain ⟨j, hj, rfl⟩ := hp9_t (by omega) e
      refine jx_cal (S_Rd_rebuiltByte (show j < 80 by omega)) rfl (fun z h3 hq => ?_)
      obtain ⟨rfl, rfl⟩ := hq
      refine And.intro e (And.intro (fun j2 hj2 ej => ?_) rfl)
      rw [jn_inj (by omega) (by omega) ej]
    · have q2 : ¬ i < nI rl := by rw [← hr]; exact q1
      exact And.intro rfl (And.intro rfl (by simp [hp9, q2]))
theorem B_V_rebuild {kp nd : Nat} {b : Nat → Bool} {pl : Nat → Nat → Nat} {h : jxH} (hk : h 14 0 2 = nI kp) (hn : h 14 0 3 = nI nd) (hb : BA (h 17 0) 6 b) (hp : ∀ p, p < 6 → AR (h 16 p) 40 16 (pl p)) (hk9 : kp < 100) (hn4 : nd ≤ 4) : jx_BD 108 [jR 0 0] h
    (fun q h' => (0 < kp ∧ nd ≤ kp) ∧ q = h 14 0 4 ∧ ∃ c r, h' = jx_st (jx_st (jx_st h 10 1 c) 18 0 r) 14 0 (upd (h 14 0) 6 (h 14 0 4)) ∧ ∀ k, k < 80 → k / 20 < nd → r k = nI (col b pl nd (2 * (k % 20)) (k / 20)) + nI 16 * nI (col b pl nd (2 * (k % 20) + 1) (k / 20)))
    (fun x h' => h' = h ∧ x = 1 ∧ ¬ (0 < kp ∧ nd ≤ kp)) := by
  refine jx_BD_by [some (jR 0 0)] rfl (fun V rule => ?_)
  refine rule (fun _ => false) 40 0 _ _ _ ?_
  refine jx_cal (S_Rd_hasEnough hk hn hk9 (by omega)) rfl (fun z h2 hq => ?_)
  obtain ⟨rfl, rfl⟩ := hq
  refine pk_eq (decide (0 < kp ∧ nd ≤ kp)).toNat 0 (fun q => ?_) (fun q => ?_) rfl rfl (by have := toNat_le (decide (0 < kp ∧ nd ≤ kp)); omega) (by decide)
  · exact And.intro rfl (And.intro rfl (of_decide_eq_false (tn0 q)))
  · refine jx_cal (S_Rd_putTogether hn hb hp hn4) rfl (fun z h3 hq => ?_)
    exact And.intro (of_decide_eq_true (tn1 q)) hq
theorem B_V_dot {pg x y : Int32} {P : Nat} {DD : Nat → Nat → Nat → Bool} {h : jxH} (hP : h 0 0 3 = nI P) (hP6 : P ≤ 6) (hL : ∀ p, p < 6 → LN (h 4 p) (DD p)) : jx_BD 77 [jR 0 0, jI pg, jI x, jI y] h
    (fun r h' => hd9 pg x y P = true ∧ (∀ p i j, p < P → i < 18 → j < 18 → pg = nI p → x = nI i → y = nI j → r = nI (DD p i j).toNat) ∧ h' = h) (fun z h' => h' = h ∧ z = 0 ∧ hd9 pg x y P = false) := by
  refine jx_BD_by [some (jR 0 0), some (jI pg), some (jI x), some (jI y)] rfl (fun V rule => ?_)
  refine rule (fun _ => false) 40 0 _ _ _ ?_
  refine jx_cal (S_V_hasDot hP) rfl (fun z h2 hq => ?_)
  obtain ⟨rfl, rfl⟩ := hq
  refine pk_eq (hd9 pg x y P).toNat 0 (fun q => ?_) (fun q => ?_) rfl rfl (by have := toNat_le (hd9 pg x y P); omega) (by decide)
  · exact And.intro rfl (And.intro rfl (tn0 q))
  · have e := tn1 q
    have e2 := e
    simp only [hd9, Bool.and_eq_true] at e2
    obtain ⟨p, hp, rfl⟩ := hp9_t (by omega) e2.1
    obtain ⟨i, hi, rfl⟩ := hp9_t (by decide) e2.2.1
    obtain ⟨j, hj, rfl⟩ := hp9_t (by decide) e2.2.2
    refine Exists.intro p (And.intro (And.intro (by omega) rfl) ?_)
    refine jx_cal (S_Sheet_isBlack (hL p (by omega)) hi hj) rfl (fun z h3 hq => ?_)
    obtain ⟨rfl, rfl⟩ := hq
    have b01 : nI (DD p i j).toNat = nI 0 ∨ nI (DD p i j).toNat = nI 1 := by cases DD p i j; exact Or.inl rfl; exact Or.inr rfl
    refine And.intro b01 (And.intro e (And.intro (fun p2 i2 j2 h1 h2 h3 e1 e2 e3 => ?_) rfl))
    rw [jn_inj (by omega) (by omega) e1, jn_inj (by omega) (by omega) e2, jn_inj (by omega) (by omega) e3]
theorem B_V_flip {pg x y : Int32} {P : Nat} {DD : Nat → Nat → Nat → Bool} {h : jxH} (hP : h 0 0 3 = nI P) (hP6 : P ≤ 6) (hL : ∀ p, p < 6 → LN (h 4 p) (DD p)) : jx_BD 78 [jR 0 0, jI pg, jI x, jI y] h
    (fun _ h' => ∃ p i j f, p < P ∧ i < 18 ∧ j < 18 ∧ pg = nI p ∧ x = nI i ∧ y = nI j ∧ h' = jx_st h 4 p f ∧ LN f (fun a b => if a = i ∧ b = j then !DD p a b else DD p a b)) (fun z h' => h' = h ∧ z = 0 ∧ hd9 pg x y P = false) := by
  refine jx_BD_by [some (jR 0 0), some (jI pg), some (jI x), some (jI y)] rfl (fun V rule => ?_)
  refine rule (fun _ => false) 40 0 _ _ _ ?_
  refine jx_cal (S_V_hasDot hP) rfl (fun z h2 hq => ?_)
  obtain ⟨rfl, rfl⟩ := hq
  refine pk_eq (hd9 pg x y P).toNat 0 (fun q => ?_) (fun q => ?_) rfl rfl (by have := toNat_le (hd9 pg x y P); omega) (by decide)
  · exact And.intro rfl (And.intro rfl (tn0 q))
  · have e2 := tn1 q
    simp only [hd9, Bool.and_eq_true] at e2
    obtain ⟨p, hp, rfl⟩ := hp9_t (by omega) e2.1
    obtain ⟨i, hi, rfl⟩ := hp9_t (by decide) e2.2.1
    obtain ⟨j, hj, rfl⟩ := hp9_t (by decide) e2.2.2
    refine Exists.intro p (And.intro (And.intro (by omega) rfl) ?_)
    refine jx_cal (S_Sheet_invert (hL p (by omega)) hi hj) rfl (fun z h3 hq => ?_)
    obtain ⟨f, rfl, hf⟩ := hq
    exact Exists.intro p (Exists.intro i (Exists.intro j (Exists.intro f (And.intro hp (And.intro hi (And.intro hj (And.intro rfl (And.intro rfl (And.intro rfl (And.intro rfl hf)))))))))) 
