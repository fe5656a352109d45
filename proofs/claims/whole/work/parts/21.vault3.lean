/-! DotVault: blot, feed, print. -/
def sz9 (w : Int32) : Bool := decide (¬ w < nI 1) && decide (¬ nI 18 < w)
theorem sz9_t {w : Int32} (h : sz9 w = true) : ∃ j, 1 ≤ j ∧ j ≤ 18 ∧ w = nI j := by
  simp only [sz9, Bool.and_eq_true, decide_eq_true_eq] at h
  have h0 : ¬ w < 0 := fun q => h.1 (by
    rw [Int32.lt_iff_toInt_lt] at q ⊢
    have e1 : (nI 1).toInt = 1 := nI_toInt (by decide)
    have e0 : (0 : Int32).toInt = 0 := Int32.toInt_zero
    omega)
  obtain ⟨j, hj, rfl⟩ := nI_of h0
  rw [nI_ltI hj (by decide), nI_ltI (by decide) hj] at h
  exact ⟨j, by omega, by omega, rfl⟩
theorem jn_min {a : Nat} (ha : a < 1000) : (if nI 18 < nI a then nI 18 else nI a) = nI (min a 18) := by
  by_cases h : 18 < a
  · rw [if_pos ((nI_ltI (by decide) (by omega)).mpr h), Nat.min_eq_right (by omega)]
  · rw [if_neg (fun q => h ((nI_ltI (by decide) (by omega)).mp q)), Nat.min_eq_left (by omega)]
theorem B_V_blot {pg x y wi hi : Int32} {c : Bool} {P : Nat} {DD : Nat → Nat → Nat → Bool} {h : jxH} (hP : h 0 0 3 = nI P) (hP6 : P ≤ 6) (hL : ∀ p, p < 6 → LN (h 4 p) (DD p)) : jx_BD 76 [jR 0 0, jI pg, jI x, jI y, jI wi, jI hi, jI (nI c.toNat)] h
    (fun q h' => ∃ p i j w g f, p < P ∧ i < 18 ∧ j < 18 ∧ 1 ≤ w ∧ w ≤ 18 ∧ 1 ≤ g ∧ g ≤ 18 ∧ pg = nI p ∧ x = nI i ∧ y = nI j ∧ wi = nI w ∧ hi = nI g ∧ q = nI (sm (fun y => sm (df (DD p) c y) i (min (i + w) 18 - i)) j (min (j + g) 18 - j)) ∧ h' = jx_st h 4 p f ∧ LN f (pD (DD p) i j (min (i + w) 18) (min (j + g) 18) c))
    (fun z h' => h' = h ∧ z = 0 ∧ (hd9 pg x y P && (sz9 wi && sz9 hi)) = false) := by
  refine jx_BD_by [some (jR 0 0), some (jI pg), some (jI x), some (jI y), some (jI wi), some (jI hi), some (jI (nI c.toNat)), none, none] rfl (fun V rule => ?_)
  refine rule (fun _ => false) 80 0 _ _ _ ?_
  refine jx_cal (S_V_hasDot hP) rfl (fun z h2 hq => ?_)
  obtain ⟨rfl, rfl⟩ := hq
  refine pk_eq (hd9 pg x y P).toNat 0 (fun q => ?_) (fun q => ?_) rfl rfl (by have := toNat_le (hd9 pg x y P); omega) (by decide)
  · exact And.intro rfl (And.intro rfl (by rw [tn0 q]; rfl))
  · have e0 := tn1 q
    refine br_c (fun q1 => ?_) (fun q1 => ?_)
    · exact And.intro rfl (And.intro rfl (by simp [sz9, show wi < nI 1 from q1]))
    refine br_c (fun q2 => ?_) (fun q2 => ?_)
    · exact And.intro rfl (And.intro rfl (by simp [sz9, show nI 18 < wi from q2]))
    refine br_c (fun q3 => ?_) (fun q3 => ?_)
    · exact And.intro rfl (And.intro rfl (by simp [sz9, show hi < nI 1 from q3]))
    refine br_c (fun q4 => ?_) (fun q4 => ?_)
    · have e1 : sz9 wi = true := by simp [sz9, show ¬ wi < nI 1 from q1, show ¬ nI 18 < wi from q2]
      have q5 : ¬ nI 18 < hi := Int32.not_lt.mpr q4
      have e2 : sz9 hi = true := by simp [sz9, show ¬ hi < nI 1 from q3, q5]
      have e3 := e0
      simp only [hd9, Bool.and_eq_true] at e3
      obtain ⟨p, hp, rfl⟩ := hp9_t (by omega) e3.1
      obtain ⟨i, hi9, rfl⟩ := hp9_t (by decide) e3.2.1
      obtain ⟨j, hj, rfl⟩ := hp9_t (by decide) e3.2.2
      obtain ⟨w, w1, w2, rfl⟩ := sz9_t e1
      obtain ⟨g, g1, g2, rfl⟩ := sz9_t e2
      refine Exists.intro p (And.intro (And.intro (by omega) rfl) ?_)
      refine jx_cal (S_Sheet_paint (l := i) (t := j) (r := min (i + w) 18) (b := min (j + g) 18) (c := c) (hL p (by omega)) (Nat.min_le_right _ _) (Nat.min_le_right _ _) (by omega) (by omega)) (by rw [nI_add, nI_add, ← jn_min (by omega), ← jn_min (by omega)]) (fun z h3 hq => ?_)
      obtain ⟨rfl, f, rfl, hf⟩ := hq
      exact Exists.intro p (Exists.intro i (Exists.intro j (Exists.intro w (Exists.intro g (Exists.intro f (And.intro hp (And.intro hi9 (And.intro hj (And.intro w1 (And.intro w2 (And.intro g1 (And.intro g2 (And.intro rfl (And.intro rfl (And.intro rfl (And.intro rfl (And.intro rfl (And.intro rfl (And.intro rfl hf)))))))))))))))))))
    · have q5 : nI 18 < hi := Int32.not_le.mp q4
      exact And.intro rfl (And.intro rfl (by simp [sz9, q5]))
theorem htk_12 (h : jxH) (kp : Nat) (d : Nat → Nat) : htk h kp d 12 0 = h 12 0 := by
  unfold htk
  split <;> rfl
theorem hst_12 (h : jxH) (n : Nat) (f : Nat → Int32) : hst h n f 12 0 = h 12 0 := rfl
theorem B_V_feed {pg tn : Int32} {P kp nd ln : Nat} {b : Nat → Bool} {DD : Nat → Nat → Nat → Bool} {h : jxH} (hP : h 0 0 3 = nI P) (hP6 : P ≤ 6) (hL : ∀ p, p < 6 → LN (h 4 p) (DD p)) (hk : h 14 0 2 = nI kp) (hn : h 14 0 3 = nI nd) (hl : h 14 0 4 = nI ln) (hb : BA (h 17 0) 6 b) (hk9 : kp < 100) (hn9 : nd < 1000) (hl9 : ln < 1000) : jx_BD 111 [jR 0 0, jI pg, jI tn] h
    (fun q h' => ∃ p t a g e dd, p < P ∧ t < 4 ∧ pg = nI p ∧ tn = nI t ∧
      ((8 < ftn (DD p) (rdT (DD p) t) ∧ q = -nI 1 ∧ (∀ r, r < 4 → e r = -nI 2) ∧ h' = hS4 h a g e dd) ∨
       (ftn (DD p) (rdT (DD p) t) ≤ 8 ∧ (∀ r, r < 4 → e r = (cor (rw9 (DD p) (rdT (DD p) t) r)).1) ∧
        (((alw (DD p) (rdT (DD p) t) 4 && tp (rdd (DD p) (rdT (DD p) t))) = false ∧ q = -nI 1 ∧ h' = hS4 h a g e dd) ∨
         ((alw (DD p) (rdT (DD p) t) 4 && tp (rdd (DD p) (rdT (DD p) t))) = true ∧ AR dd 44 16 (rdd (DD p) (rdT (DD p) t)) ∧
          ((¬ kp = 0 ∧ ¬ (rdd (DD p) (rdT (DD p) t) 1 = nd ∧ rdd (DD p) (rdT (DD p) t) 2 + 16 * rdd (DD p) (rdT (DD p) t) 3 = ln) ∧ q = -nI 2 ∧ h' = hS4 h a g e dd) ∨
           ((kp = 0 ∨ (rdd (DD p) (rdT (DD p) t) 1 = nd ∧ rdd (DD p) (rdT (DD p) t) 2 + 16 * rdd (DD p) (rdT (DD p) t) 3 = ln)) ∧ q = nI (rdd (DD p) (rdT (DD p) t) 0) ∧
            (b (rdd (DD p) (rdT (DD p) t) 0) = true → h' = htk (hS4 h a g e dd) kp (rdd (DD p) (rdT (DD p) t))) ∧
            (b (rdd (DD p) (rdT (DD p) t) 0) = false → ∃ f, h' = hst (htk (hS4 h a g e dd) kp (rdd (DD p) (rdT (DD p) t))) (rdd (DD p) (rdT (DD p) t) 0) f ∧ AR f 40 16 (fun m => rdd (DD p) (rdT (DD p) t) (4 + m))))))))))
    (fun z h' => h' = h ∧ z = 0 ∧ (hp9 pg P && hp9 tn 4) = false) := by
  refine jx_BD_by [some (jR 0 0), some (jI pg), some (jI tn)] rfl (fun V rule => ?_)
  refine rule (fun _ => false) 60 0 _ _ _ ?_
  refine jx_cal (S_V_hasPage hP) rfl (fun z h2 hq => ?_)
  obtain ⟨rfl, rfl⟩ := hq
  refine pk_eq (hp9 pg P).toNat 0 (fun q => ?_) (fun q => ?_) rfl rfl (by have := toNat_le (hp9 pg P); omega) (by decide)
  · exact And.intro rfl (And.intro rfl (by rw [tn0 q]; rfl))
  refine br_c (fun q1 => ?_) (fun q1 => ?_)
  · exact And.intro rfl (And.intro rfl (by simp [hp9, q1]))
  refine br_c (fun q2 => ?_) (fun q2 => ?_)
  · have e2 : hp9 tn 4 = true := by simp [hp9, q1, show tn < nI 4 from q2]
    obtain ⟨p, hp, rfl⟩ := hp9_t (by omega) (tn1 q)
    obtain ⟨t, ht, rfl⟩ := hp9_t (by decide) e2
    refine Exists.intro p (And.intro (And.intro (by omega) rfl) ?_)
    refine jx_cal (S_Scan_read (hL p (by omega)) ht) rfl (fun z h3 hq => ?_)
    obtain ⟨a, g, e, dd, rfl, hq⟩ := hq
    rcases hq with ⟨c1, rfl, c2⟩ | ⟨c1, rfl, c2, c3⟩
    · refine pk_eq 0 0 (fun _ => ?_) (fun z => absurd rfl z)
      exact Exists.intro p (Exists.intro t (Exists.intro a (Exists.intro g (Exists.intro e (Exists.intro dd (And.intro hp (And.intro ht (And.intro rfl (And.intro rfl (Or.inl (And.intro c1 (And.intro rfl (And.intro c2 rfl)))))))))))))
    · refine pk_eq (alw (DD p) (rdT (DD p) t) 4 && tp (rdd (DD p) (rdT (DD p) t))).toNat 0 (fun z => ?_) (fun z => ?_) rfl rfl (by have := toNat_le (alw (DD p) (rdT (DD p) t) 4 && tp (rdd (DD p) (rdT (DD p) t))); omega) (by decide)
      · exact Exists.intro p (Exists.intro t (Exists.intro a (Exists.intro g (Exists.intro e (Exists.intro dd (And.intro hp (And.intro ht (And.intro rfl (And.intro rfl (Or.inr (And.intro c1 (And.intro c2 (Or.inl (And.intro (tn0 z) (And.intro rfl rfl)))))))))))))))
      · have z1 := tn1 z
        have z2 := z1
        simp only [Bool.and_eq_true, tp, decide_eq_true_eq] at z2
        have hk' : hS4 h2 a g e dd 14 0 2 = nI kp := hk
        have hn' : hS4 h2 a g e dd 14 0 3 = nI nd := hn
        have hl' : hS4 h2 a g e dd 14 0 4 = nI ln := hl
        have hb' : BA (hS4 h2 a g e dd 17 0) 6 b := hb
        have hd' : AR (hS4 h2 a g e dd 12 0) 44 16 (rdd (DD p) (rdT (DD p) t)) := c3
        refine jx_cal (S_Rd_keep hk' hn' hl' hb' hd' (by omega) hk9 hn9 hl9) rfl (fun r h4 hq => ?_)
        rcases hq with ⟨k1, k2, rfl, rfl⟩ | ⟨k1, rfl, k2, k3⟩
        · refine pk_eq 0 0 (fun _ => ?_) (fun z => absurd rfl z)
          exact Exists.intro p (Exists.intro t (Exists.intro a (Exists.intro g (Exists.intro e (Exists.intro dd (And.intro hp (And.intro ht (And.intro rfl (And.intro rfl (Or.inr (And.intro c1 (And.intro c2 (Or.inr (And.intro z1 (And.intro c3 (Or.inl (And.intro k1 (And.intro k2 (And.intro rfl rfl)))))))))))))))))))
        · refine pk_eq 1 0 (fun z => absurd z (by decide)) (fun _ => ?_)
          have h12 : h4 12 0 = dd := by
            cases hbd : b (rdd (DD p) (rdT (DD p) t) 0) with
            | true => rw [k2 hbd, htk_12]; rfl
            | false =>
              obtain ⟨f, hf, -⟩ := k3 hbd
              rw [hf, hst_12, htk_12]; rfl
          have hd4 : AR (h4 12 0) 44 16 (rdd (DD p) (rdT (DD p) t)) := by rw [h12]; exact c3
          refine jx_cal (S_Scan_number hd4) rfl (fun r h5 hq => ?_)
          obtain ⟨rfl, rfl⟩ := hq
          exact Exists.intro p (Exists.intro t (Exists.intro a (Exists.intro g (Exists.intro e (Exists.intro dd (And.intro hp (And.intro ht (And.intro rfl (And.intro rfl (Or.inr (And.intro c1 (And.intro c2 (Or.inr (And.intro z1 (And.intro c3 (Or.inr (And.intro k1 (And.intro rfl (And.intro k2 k3)))))))))))))))))))
  · have q3 : ¬ tn < nI 4 := q2
    exact And.intro rfl (And.intro rfl (by simp [hp9, q3]))
/-- print leaves all else -/
def frm (h h' : jxH) : Prop := ∀ k i, k ≠ 0 → k ≠ 4 → k ≠ 5 → (k ≠ 7 ∨ i ≠ 0) → (k ≠ 10 ∨ i ≠ 0) → h' k i = h k i
theorem B_V_print {len : Nat} {dc s0 s1 : Nat → Nat} {h : jxH} (hl : h 0 0 1 = nI len) (hl9 : len ≤ 80) (hd : AR (h 1 0) 80 256 dc) (hc : AR (h 10 0) 6 16 s0) (hs : AR (h 7 0) 15 16 s1) : jx_BD 107 [jR 0 0] h
    (fun q h' => 0 < len ∧ q = nI ((len + 19) / 20 + 2) ∧ frm h h' ∧ h' 0 0 = upd (h 0 0) 3 (nI ((len + 19) / 20 + 2)) ∧ (∀ p, (len + 19) / 20 + 2 ≤ p → h' 4 p = h 4 p) ∧ (∀ p, p < (len + 19) / 20 + 2 → LN (h' 4 p) (pgD (dta dc len ((len + 19) / 20) p) 4)) ∧ (∃ s, AR (h' 10 0) 6 16 s) ∧ (∃ s, AR (h' 7 0) 15 16 s))
    (fun x h' => h' = h ∧ x = 1 ∧ len = 0) := by
  refine jx_BD_by [some (jR 0 0), none, none] rfl (fun V rule => ?_)
  by_cases hl0 : len = 0
  · refine rule (fun _ => false) 40 0 _ _ _ ?_
    refine pk_eq len 0 (fun q => ?_) (fun q => absurd hl0 q) hl rfl
    exact And.intro rfl (And.intro rfl q)
  obtain ⟨n, hne⟩ : ∃ n, n = (len + 19) / 20 := ⟨_, rfl⟩
  have hn1 : 1 ≤ n := by omega
  have hn4 : n ≤ 4 := by omega
  have loop := jl_up (P := fun p => ∀ hh : jxH, frm h hh → hh 0 0 = upd (h 0 0) 3 (nI (n + 2)) → (∀ p', p ≤ p' → hh 4 p' = h 4 p') → (∀ p', p' < p → LN (hh 4 p') (pgD (dta dc len n p') 4)) → (∃ s, AR (hh 10 0) 6 16 s) → (∃ s, AR (hh 7 0) 15 16 s) → V 39 [some (jR 0 0), some (jI (nI n)), some (jI (nI p))] [] hh) (n + 2)
    (by
      intro hh h1 h2 h3 h4 h5 h6
      refine rule (fun _ => false) 20 39 _ _ _ ?_
      have e3 : hh 0 0 3 = nI (n + 2) := by rw [h2, upd_same]
      refine pk_le (n + 2) (n + 2) (fun _ => ?_) (fun q => absurd q (Nat.lt_irrefl _)) e3 rfl
      subst hne
      exact And.intro (by omega) (And.intro e3 (And.intro h1 (And.intro h2 (And.intro h3 (And.intro h4 (And.intro h5 h6)))))))
    (fun p hp ih => by
      intro hh h1 h2 h3 h4 h5 h6
      refine rule (Nat.beq 39) 40 39 _ _ _ ?_
      have e3 : hh 0 0 3 = nI (n + 2) := by rw [h2, upd_same]
      have e1 : hh 0 0 1 = nI len := by rw [h2, upd_ne _ _ (by decide)]; exact hl
      have hdh : AR (hh 1 0) 80 256 dc := by rw [h1 1 0 (by decide) (by decide) (by decide) (Or.inl (by decide)) (Or.inl (by decide))]; exact hd
      obtain ⟨s5, h5⟩ := h5
      obtain ⟨s6, h6⟩ := h6
      refine pk_le (n + 2) p (fun q => absurd q (by omega)) (fun _ => ?_) e3 rfl
      refine jx_cal (S_V_writeData e1 hl9 hdh h5 hn4 (show p ≤ n + 1 by omega)) rfl (fun r h8 hq => ?_)
      obtain ⟨f, c, s7, rfl, hf, hc7⟩ := hq
      refine Exists.intro p (And.intro (And.intro (by omega) rfl) ?_)
      have hf' : AR (jx_st (jx_st hh 5 0 f) 10 0 c 5 0) 44 16 (dta dc len n p) := hf
      have h6' : AR (jx_st (jx_st hh 5 0 f) 10 0 c 7 0) 15 16 s6 := h6
      refine jx_cal (S_V_drawSheet (p := p) hf' h6') rfl (fun r h8 hq => ?_)
      obtain ⟨f2, a2, s8, rfl, hf2, ha2⟩ := hq
      refine jv_to (V := V) (ih _ ?_ ?_ ?_ ?_ ?_ ?_) (by rw [nI_add]) rfl rfl
      · intro k i k0 k4 k5 k7 k10
        rw [← h1 k i k0 k4 k5 k7 k10]
        have x7 : jx_st (jx_st (jx_st (jx_st hh 5 0 f) 10 0 c) 4 p f2) 7 0 a2 k i = jx_st (jx_st (jx_st hh 5 0 f) 10 0 c) 4 p f2 k i := jx_st_ne (fun z => by cases z; rcases k7 with z | z <;> exact z rfl)
        have x4 : jx_st (jx_st (jx_st hh 5 0 f) 10 0 c) 4 p f2 k i = jx_st (jx_st hh 5 0 f) 10 0 c k i := jx_st_ne (fun z => by cases z; exact k4 rfl)
        have x10 : jx_st (jx_st hh 5 0 f) 10 0 c k i = jx_st hh 5 0 f k i := jx_st_ne (fun z => by cases z; rcases k10 with z | z <;> exact z rfl)
        have x5 : jx_st hh 5 0 f k i = hh k i := jx_st_ne (fun z => by cases z; exact k5 rfl)
        rw [x7, x4, x10, x5]
      · exact h2
      · intro p' hp'
        have x4 : jx_st (jx_st (jx_st hh 5 0 f) 10 0 c) 4 p f2 4 p' = jx_st (jx_st hh 5 0 f) 10 0 c 4 p' := jx_st_ne (fun z => by cases z; omega)
        show jx_st (jx_st (jx_st hh 5 0 f) 10 0 c) 4 p f2 4 p' = h 4 p'
        rw [x4]
        exact h3 p' (by omega)
      · intro p' hp'
        show LN (jx_st (jx_st (jx_st hh 5 0 f) 10 0 c) 4 p f2 4 p') _
        by_cases hpp : p' = p
        · subst hpp
          rw [jx_st_same]
          exact hf2
        · have x4 : jx_st (jx_st (jx_st hh 5 0 f) 10 0 c) 4 p f2 4 p' = jx_st (jx_st hh 5 0 f) 10 0 c 4 p' := jx_st_ne (fun z => by cases z; exact hpp rfl)
          rw [x4]
          exact h4 p' (by omega)
      · exact ⟨s7, hc7⟩
      · exact ⟨s8, ha2⟩)
  refine rule (Nat.beq 39) 40 0 _ _ _ ?_
  refine pk_eq len 0 (fun q => absurd q hl0) (fun _ => ?_) hl rfl
  refine And.intro (by decide) ?_
  have en : (h 0 0 1 + nI 20 - nI 1) / nI 20 = nI n := by
    rw [hl, nI_add, pk_sub (by omega), pk_div (by omega) (by decide) (by decide), show len + 20 - 1 = len + 19 by omega, ← hne]
  refine jv_to (V := V) (loop 0 (Nat.zero_le _) (jx_st h 0 0 (upd (h 0 0) 3 (nI (n + 2)))) ?_ rfl (fun p' _ => rfl) (fun p' hp' => absurd hp' (Nat.not_lt_zero _)) ⟨s0, hc⟩ ⟨s1, hs⟩) (congrArg (fun z => [some (jR 0 0), some (jI z), some (jI (nI 0))]) en) rfl ?_
  · intro k i k0 _ _ _ _
    exact jx_st_ne (fun z => by cases z; exact k0 rfl)
  · show jx_st h 0 0 (upd (h 0 0) 3 ((h 0 0 1 + nI 20 - nI 1) / nI 20 + nI 2)) = _
    rw [en, nI_add]
