/-! The class's heap and the reference's, side by side. -/
/-- the abstract state: length, document, pages, dots, kept, needed, length read, which are kept, payloads, rebuilt length -/
abbrev jxS : Type := Nat × (Nat → Nat) × Nat × (Nat → Nat → Nat → Bool) × Nat × Nat × Nat × (Nat → Bool) × (Nat → Nat → Nat) × Nat
def R_doc (h : jxH) (len : Nat) (dc : Nat → Nat) : Prop := h 0 0 1 = nI len ∧ h 20 0 1 = nI len ∧ len ≤ 80 ∧ AR (h 1 0) 80 256 dc ∧ AR (h 21 0) 80 256 dc
def R_dot (h : jxH) (P : Nat) (DD : Nat → Nat → Nat → Bool) : Prop := h 0 0 3 = nI P ∧ h 20 0 3 = nI P ∧ P ≤ 6 ∧ (∀ p, p < 6 → LN (h 4 p) (DD p)) ∧ (∀ p, p < 6 → PA (h 22 0) p (DD p))
def R_err (h : jxH) : Prop := ∀ r, r < 4 → h 13 0 r = h 29 0 r
def R_kept (h : jxH) (kp nd ln : Nat) (b : Nat → Bool) : Prop := h 14 0 2 = nI kp ∧ h 20 0 12 = nI kp ∧ h 14 0 3 = nI nd ∧ h 20 0 13 = nI nd ∧ h 14 0 4 = nI ln ∧ h 20 0 14 = nI ln ∧ BA (h 17 0) 6 b ∧ BA (h 30 0) 6 b
def R_kin (kp nd ln : Nat) (b : Nat → Bool) : Prop := nd ≤ 4 ∧ ln ≤ 20 * nd ∧ (kp = 0 → ∀ k, k < 6 → b k = false) ∧ (0 < kp → kp = sm (fun k => (b k).toNat) 0 (nd + 2))
def R_pay (h : jxH) (pl : Nat → Nat → Nat) : Prop := (∀ p, p < 6 → AR (h 16 p) 40 16 (pl p)) ∧ PL (h 31 0) pl
def R_out (h : jxH) (rl : Nat) : Prop := h 14 0 6 = nI rl ∧ h 20 0 17 = nI rl ∧ rl ≤ 80 ∧ ∀ i, i < rl → h 18 0 i = h 32 0 i
def R_inv (h : jxH) : Prop := AR (h 23 0) 15 16 gf_pw ∧ (∃ s, AR (h 10 0) 6 16 s) ∧ (∃ s, AR (h 7 0) 15 16 s)
def REL (h : jxH) : Prop := ∃ len dc P DD kp nd ln b pl rl, R_doc h len dc ∧ R_dot h P DD ∧ R_err h ∧ R_kept h kp nd ln b ∧ R_kin kp nd ln b ∧ R_pay h pl ∧ R_out h rl ∧ R_inv h
theorem R_kp {kp nd ln : Nat} {b : Nat → Bool} (h : R_kin kp nd ln b) : kp ≤ 6 := by
  obtain ⟨h1, -, h3, h4⟩ := h
  by_cases hk : kp = 0
  · omega
  · have := sm_le1 (f := fun k => (b k).toNat) (fun k => toNat_le (b k)) 0 (nd + 2)
    have := h4 (by omega)
    omega
theorem jx_stk {h : jxH} {k i k' i' : Nat} {f : Nat → Int32} (hn : k' ≠ k) : jx_st h k i f k' i' = h k' i' := by
  unfold jx_st
  rw [if_neg hn]
/-- what a call of the reference owes behind the class's: not thrown, the same answer, the relation -/
def RQ (f9 : Nat → Int32) (r : Int32) : Int32 → jxH → Prop := fun r' h2 => h2 20 0 0 = nI 0 ∧ r' = r ∧ h2 33 0 = f9 ∧ REL h2
/-- the cell 'out' is the law's own -/
theorem REL_33 {h : jxH} (hR : REL h) (f9 : Nat → Int32) : REL (jx_st h 33 0 f9) := by
  obtain ⟨len, dc, P, DD, kp, nd, ln, b, pl, rl, h1, h2, h3, h4, h5, h6, h7, h8⟩ := hR
  exact ⟨len, dc, P, DD, kp, nd, ln, b, pl, rl, h1, h2, h3, h4, h5, h6, h7, h8⟩
/-- and behind a throw -/
def RT (t : Nat) : Int32 → jxH → Prop := fun _ h2 => h2 20 0 0 = nI t ∧ REL h2
theorem thr_0 (h : jxH) (t : Nat) : thr h t 20 0 0 = nI t := rfl
theorem REL_thr {h : jxH} (hR : REL h) (t : Nat) : REL (thr h t) := by
  obtain ⟨len, dc, P, DD, kp, nd, ln, b, pl, rl, h1, h2, h3, h4, h5, h6, h7, h8⟩ := hR
  exact ⟨len, dc, P, DD, kp, nd, ln, b, pl, rl, h1, h2, h3, h4, h5, h6, h7, h8⟩
theorem Q_wipe {h : jxH} (hR : REL h) : jx_MW 41 [jR 20 0] (jx_st h 0 0 (upd (h 0 0) 1 (nI 0))) (RQ (h 33 0) (h 0 0 1)) := by
  obtain ⟨len, dc, P, DD, kp, nd, ln, b, pl, rl, h1, h2, h3, h4, h5, h6, h7, h8⟩ := hR
  refine jx_MW_mono S_M_wipe (fun r h' hq => ?_)
  obtain ⟨rfl, rfl⟩ := hq
  refine ⟨rfl, ?_, rfl, 0, dc, P, DD, kp, nd, ln, b, pl, rl, ⟨rfl, rfl, by omega, h1.2.2.2.1, h1.2.2.2.2⟩, h2, h3, h4, h5, h6, h7, h8⟩
  exact h1.2.1.trans h1.1.symm
theorem Q_missing {h : jxH} (hR : REL h) : ∃ r, jx_MW 47 [jR 0 0] h (fun r' h' => r' = r ∧ h' = h) ∧ jx_MW 31 [jR 20 0] h (RQ (h 33 0) r) := by
  have hR0 := hR
  obtain ⟨len, dc, P, DD, kp, nd, ln, b, pl, rl, h1, h2, h3, h4, h5, h6, h7, h8⟩ := hR
  have hk := R_kp h5
  refine ⟨_, S_V_missing h4.1 (by omega), jx_MW_mono (S_M_missing h4.2.1 (by omega)) (fun r h' hq => ?_)⟩
  obtain ⟨rfl, rfl⟩ := hq
  refine ⟨rfl, ?_, rfl, REL_thr hR0 0⟩
  rw [h4.2.2.1, h4.2.2.2.1]
theorem Q_reset {h : jxH} (hR : REL h) : jx_MW 49 [jR 0 0] h (fun r h1 => jx_MW 36 [jR 20 0] h1 (RQ (h1 33 0) r)) := by
  obtain ⟨len, dc, P, DD, kp, nd, ln, b, pl, rl, h1, h2, h3, h4, h5, h6, h7, h8⟩ := hR
  refine jx_MW_mono S_V_reset (fun r h' hq => ?_)
  obtain ⟨rfl, f, rfl, hf⟩ := hq
  refine jx_MW_mono S_M_reset (fun r h' hq => ?_)
  obtain ⟨rfl, g, rfl, hg⟩ := hq
  refine ⟨rfl, ?_, rfl, len, dc, P, DD, 0, nd, ln, (fun _ => false), pl, 0, h1, h2, h3, ⟨rfl, rfl, h4.2.2.1, h4.2.2.2.1, h4.2.2.2.2.1, h4.2.2.2.2.2.1, hf, hg⟩, ⟨h5.1, h5.2.1, fun _ _ _ => rfl, fun z => absurd z (Nat.lt_irrefl _)⟩, h6, ⟨rfl, rfl, by omega, fun i hi => absurd hi (Nat.not_lt_zero _)⟩, h8⟩
  exact h4.2.1.trans h4.1.symm
-- the calls that may throw: what comes behind the class's answer, and behind its throw
def jx_BM (κ : Nat) (as : List jxV) (h : jxH) (E' : Int32 → jxH → Prop) (TH' : Nat → jxH → Prop) : Prop := ∃ (E : Int32 → jxH → Prop) (TH : Nat → jxH → Prop), jx_BD κ as h E TH ∧ (∀ r h1, E r h1 → E' r h1) ∧ (∀ x h1, TH x h1 → TH' x h1)
theorem Q_load {b : Int32} {h : jxH} (hR : REL h) : jx_BM 2 [jR 0 0, jI b] h (fun r h1 => ∀ f9, jx_MW 30 [jR 20 0, jI b] (jx_st h1 33 0 f9) (RQ f9 r)) (fun x h1 => h1 = h ∧ ((x = 0 ∧ jx_MW 30 [jR 20 0, jI b] h (RT 1)) ∨ (x = 1 ∧ jx_MW 30 [jR 20 0, jI b] h (RT 2)))) := by
  have hR0 := hR
  obtain ⟨len, dc, P, DD, kp, nd, ln, bb, pl, rl, h1, h2, h3, h4, h5, h6, h7, h8⟩ := hR
  refine ⟨_, _, B_V_load h1.1 h1.2.2.1, fun r g hq => ?_, fun x g hq => ?_⟩
  · obtain ⟨q1, q2, rfl, rfl⟩ := hq
    intro f9
    have hl' : jx_st (jx_st (jx_st h 1 0 (upd (h 1 0) len b)) 0 0 (upd (h 0 0) 1 (nI (len + 1)))) 33 0 f9 20 0 1 = nI len := h1.2.1
    refine jx_MW_mono (S_M_load hl' h1.2.2.1) (fun r' g' hq => ?_)
    obtain ⟨rfl, rfl⟩ := hq.2.2 q1 q2
    obtain ⟨j, hj, rfl⟩ : ∃ j, j ≤ 255 ∧ b = nI j := nI_of2 (nI_toInt (by decide)) q1.1 q1.2
    refine ⟨rfl, rfl, rfl, len + 1, nup dc len j, P, DD, kp, nd, ln, bb, pl, rl, ⟨rfl, rfl, by omega, h1.2.2.2.1.put (by omega), h1.2.2.2.2.put (by omega)⟩, h2, h3, h4, h5, h6, h7, h8⟩
  · obtain ⟨rfl, hq⟩ := hq
    refine ⟨rfl, ?_⟩
    rcases hq with ⟨rfl, q1⟩ | ⟨rfl, q1, q2⟩
    · refine Or.inl ⟨rfl, jx_MW_mono (S_M_load h1.2.1 h1.2.2.1) (fun r' g' hq => ?_)⟩
      obtain rfl := hq.1 q1
      exact ⟨rfl, REL_thr hR0 1⟩
    · refine Or.inr ⟨rfl, jx_MW_mono (S_M_load h1.2.1 h1.2.2.1) (fun r' g' hq => ?_)⟩
      obtain rfl := hq.2.1 q1 q2
      exact ⟨rfl, REL_thr hR0 2⟩
theorem Q_errors {r : Int32} {h : jxH} (hR : REL h) : jx_BM 45 [jR 0 0, jI r] h (fun q h1 => ∀ f9, jx_MW 27 [jR 20 0, jI r] (jx_st h1 33 0 f9) (RQ f9 q)) (fun x h1 => h1 = h ∧ x = 0 ∧ jx_MW 27 [jR 20 0, jI r] h (RT 1)) := by
  have hR0 := hR
  obtain ⟨len, dc, P, DD, kp, nd, ln, bb, pl, rl, h1, h2, h3, h4, h5, h6, h7, h8⟩ := hR
  refine ⟨_, _, B_V_errors, fun q g hq => ?_, fun x g hq => ?_⟩
  · obtain ⟨q1, q2, rfl⟩ := hq
    intro f9
    refine jx_MW_mono S_M_errors (fun r' g' hq => ?_)
    obtain ⟨q3, rfl⟩ := hq.1 q1
    obtain ⟨j, hj, rfl⟩ := hp9_t (by decide) q1
    refine ⟨rfl, ?_, rfl, REL_thr (REL_33 hR0 f9) 0⟩
    rw [q2 j hj rfl, q3 j hj rfl]
    exact (h3 j hj).symm
  · obtain ⟨rfl, rfl, q1⟩ := hq
    refine ⟨rfl, rfl, jx_MW_mono S_M_errors (fun r' g' hq => ?_)⟩
    obtain rfl := hq.2 q1
    exact ⟨rfl, REL_thr hR0 1⟩
theorem Q_out {i : Int32} {h : jxH} (hR : REL h) : jx_BM 48 [jR 0 0, jI i] h (fun q h1 => ∀ f9, jx_MW 34 [jR 20 0, jI i] (jx_st h1 33 0 f9) (RQ f9 q)) (fun x h1 => h1 = h ∧ x = 2 ∧ jx_MW 34 [jR 20 0, jI i] h (RT 1)) := by
  have hR0 := hR
  obtain ⟨len, dc, P, DD, kp, nd, ln, bb, pl, rl, h1, h2, h3, h4, h5, h6, h7, h8⟩ := hR
  refine ⟨_, _, B_V_out h7.1 h7.2.2.1, fun q g hq => ?_, fun x g hq => ?_⟩
  · obtain ⟨q1, q2, rfl⟩ := hq
    intro f9
    refine jx_MW_mono (S_M_out (h := jx_st g 33 0 f9) h7.2.1 h7.2.2.1) (fun r' g' hq => ?_)
    obtain ⟨q3, rfl⟩ := hq.1 q1
    obtain ⟨j, hj, rfl⟩ := hp9_t (by have := h7.2.2.1; omega) q1
    refine ⟨rfl, ?_, rfl, REL_thr (REL_33 hR0 f9) 0⟩
    rw [q2 j hj rfl, q3 j hj rfl]
    exact (h7.2.2.2 j hj).symm
  · obtain ⟨rfl, rfl, q1⟩ := hq
    refine ⟨rfl, rfl, jx_MW_mono (S_M_out h7.2.1 h7.2.2.1) (fun r' g' hq => ?_)⟩
    obtain rfl := hq.2 q1
    exact ⟨rfl, REL_thr hR0 1⟩
theorem Q_dot {pg x y : Int32} {h : jxH} (hR : REL h) : jx_BM 77 [jR 0 0, jI pg, jI x, jI y] h (fun q h1 => ∀ f9, jx_MW 66 [jR 20 0, jI pg, jI x, jI y] (jx_st h1 33 0 f9) (RQ f9 q)) (fun z h1 => h1 = h ∧ z = 0 ∧ jx_MW 66 [jR 20 0, jI pg, jI x, jI y] h (RT 1)) := by
  have hR0 := hR
  obtain ⟨len, dc, P, DD, kp, nd, ln, bb, pl, rl, h1, h2, h3, h4, h5, h6, h7, h8⟩ := hR
  refine ⟨_, _, B_V_dot h2.1 h2.2.2.1 h2.2.2.2.1, fun q g hq => ?_, fun z g hq => ?_⟩
  · obtain ⟨q1, q2, rfl⟩ := hq
    intro f9
    refine jx_MW_mono (S_M_dot (h := jx_st g 33 0 f9) h2.2.1 h2.2.2.1 h2.2.2.2.2) (fun r' g' hq => ?_)
    obtain ⟨q3, rfl⟩ := hq.1 q1
    have e2 := q1
    simp only [hd9, Bool.and_eq_true] at e2
    obtain ⟨p, hp, rfl⟩ := hp9_t (by have := h2.2.2.1; omega) e2.1
    obtain ⟨i, hi, rfl⟩ := hp9_t (by decide) e2.2.1
    obtain ⟨j, hj, rfl⟩ := hp9_t (by decide) e2.2.2
    refine ⟨rfl, ?_, rfl, REL_thr (REL_33 hR0 f9) 0⟩
    rw [q2 p i j hp hi hj rfl rfl rfl, q3 p i j hp hi hj rfl rfl rfl]
  · obtain ⟨rfl, rfl, q1⟩ := hq
    refine ⟨rfl, rfl, jx_MW_mono (S_M_dot h2.2.1 h2.2.2.1 h2.2.2.2.2) (fun r' g' hq => ?_)⟩
    obtain rfl := hq.2 q1
    exact ⟨rfl, REL_thr hR0 1⟩
/-- page p replaced -/
def dup (DD : Nat → Nat → Nat → Bool) (p : Nat) (D : Nat → Nat → Bool) : Nat → Nat → Nat → Bool := fun p' => if p' = p then D else DD p'
theorem dup_L {h : jxH} {DD : Nat → Nat → Nat → Bool} (hL : ∀ p, p < 6 → LN (h 4 p) (DD p)) {p : Nat} {f : Nat → Int32} {D : Nat → Nat → Bool} (hf : LN f D) : ∀ p', p' < 6 → LN (jx_st h 4 p f 4 p') (dup DD p D p') := by
  intro p' hp'
  unfold dup
  by_cases hpp : p' = p
  · subst hpp
    rw [jx_st_same, if_pos rfl]
    exact hf
  · rw [jx_st_ne (fun z => by cases z; exact hpp rfl), if_neg hpp]
    exact hL p' hp'
theorem dup_P {g : Nat → Int32} {DD : Nat → Nat → Nat → Bool} (hD : ∀ p, p < 6 → PA g p (DD p)) {p : Nat} {f : Nat → Int32} {D : Nat → Nat → Bool} (hf : PF g f p D) : ∀ p', p' < 6 → PA f p' (dup DD p D p') := by
  intro p' hp'
  unfold dup
  by_cases hpp : p' = p
  · subst hpp
    rw [if_pos rfl]
    exact hf.1
  · rw [if_neg hpp]
    intro x y hx hy
    rw [hf.2 _ (by omega)]
    exact hD p' hp' x y hx hy
theorem Q_flip {pg x y : Int32} {h : jxH} (hR : REL h) : jx_BM 78 [jR 0 0, jI pg, jI x, jI y] h (fun _ h1 => jx_MW 68 [jR 20 0, jI pg, jI x, jI y] h1 (RT 0)) (fun z h1 => h1 = h ∧ z = 0 ∧ jx_MW 68 [jR 20 0, jI pg, jI x, jI y] h (RT 1)) := by
  have hR0 := hR
  obtain ⟨len, dc, P, DD, kp, nd, ln, bb, pl, rl, h1, h2, h3, h4, h5, h6, h7, h8⟩ := hR
  refine ⟨_, _, B_V_flip h2.1 h2.2.2.1 h2.2.2.2.1, fun q g hq => ?_, fun z g hq => ?_⟩
  · obtain ⟨p, i, j, f, hp, hi, hj, rfl, rfl, rfl, rfl, hf⟩ := hq
    have hP' : jx_st h 4 p f 20 0 3 = nI P := h2.2.1
    have hD' : ∀ q, q < 6 → PA (jx_st h 4 p f 22 0) q (DD q) := h2.2.2.2.2
    refine jx_MW_mono (S_M_flip hP' h2.2.2.1 hD') (fun r' g' hq => ?_)
    have hd : hd9 (nI p) (nI i) (nI j) P = true := by
      rw [hd9, hp9_n hp (by have := h2.2.2.1; omega), hp9_n hi (by decide), hp9_n hj (by decide)]
      rfl
    obtain ⟨f2, rfl, hf2⟩ := hq.1 hd p i j hp hi hj rfl rfl rfl
    exact ⟨rfl, len, dc, P, dup DD p (fun a b => if a = i ∧ b = j then !DD p a b else DD p a b), kp, nd, ln, bb, pl, rl, h1, ⟨h2.1, h2.2.1, h2.2.2.1, dup_L h2.2.2.2.1 hf, dup_P h2.2.2.2.2 hf2⟩, h3, h4, h5, h6, h7, h8⟩
  · obtain ⟨rfl, rfl, q1⟩ := hq
    refine ⟨rfl, rfl, jx_MW_mono (S_M_flip h2.2.1 h2.2.2.1 h2.2.2.2.2) (fun r' g' hq => ?_)⟩
    obtain rfl := hq.2 q1
    exact ⟨rfl, REL_thr hR0 1⟩
theorem sz9_n {w : Nat} (h1 : 1 ≤ w) (h2 : w ≤ 18) : sz9 (nI w) = true := by
  simp only [sz9, Bool.and_eq_true, decide_eq_true_eq]
  rw [nI_ltI (by omega) (by decide), nI_ltI (by decide) (by omega)]
  omega
theorem Q_blot {pg x y wi hi : Int32} {c : Bool} {h : jxH} (hR : REL h) : jx_BM 76 [jR 0 0, jI pg, jI x, jI y, jI wi, jI hi, jI (nI c.toNat)] h (fun q h1 => ∀ f9, jx_MW 64 [jR 20 0, jI pg, jI x, jI y, jI wi, jI hi, jI (nI c.toNat)] (jx_st h1 33 0 f9) (RQ f9 q)) (fun z h1 => h1 = h ∧ z = 0 ∧ jx_MW 64 [jR 20 0, jI pg, jI x, jI y, jI wi, jI hi, jI (nI c.toNat)] h (RT 1)) := by
  have hR0 := hR
  obtain ⟨len, dc, P, DD, kp, nd, ln, bb, pl, rl, h1, h2, h3, h4, h5, h6, h7, h8⟩ := hR
  refine ⟨_, _, B_V_blot h2.1 h2.2.2.1 h2.2.2.2.1, fun q g hq => ?_, fun z g hq => ?_⟩
  · obtain ⟨p, i, j, w, v, f, hp, hi, hj, hw1, hw2, hv1, hv2, rfl, rfl, rfl, rfl, rfl, rfl, rfl, hf⟩ := hq
    intro f9
    have hP' : jx_st (jx_st h 4 p f) 33 0 f9 20 0 3 = nI P := h2.2.1
    have hD' : ∀ q, q < 6 → PA (jx_st (jx_st h 4 p f) 33 0 f9 22 0) q (DD q) := h2.2.2.2.2
    refine jx_MW_mono (S_M_blot hP' h2.2.2.1 hD') (fun r' g' hq => ?_)
    have hd : (hd9 (nI p) (nI i) (nI j) P && (sz9 (nI w) && sz9 (nI v))) = true := by
      rw [hd9, hp9_n hp (by have := h2.2.2.1; omega), hp9_n hi (by decide), hp9_n hj (by decide), sz9_n hw1 hw2, sz9_n hv1 hv2]
      rfl
    obtain ⟨rfl, f2, rfl, hf2⟩ := hq.1 hd p i j w v hp hi hj hw1 hw2 hv1 hv2 rfl rfl rfl rfl rfl
    exact ⟨rfl, rfl, rfl, len, dc, P, dup DD p (pD (DD p) i j (min (i + w) 18) (min (j + v) 18) c), kp, nd, ln, bb, pl, rl, h1, ⟨h2.1, h2.2.1, h2.2.2.1, dup_L h2.2.2.2.1 hf, dup_P h2.2.2.2.2 hf2⟩, h3, h4, h5, h6, h7, h8⟩
  · obtain ⟨rfl, rfl, q1⟩ := hq
    refine ⟨rfl, rfl, jx_MW_mono (S_M_blot h2.2.1 h2.2.2.1 h2.2.2.2.2) (fun r' g' hq => ?_)⟩
    obtain rfl := hq.2 q1
    exact ⟨rfl, REL_thr hR0 1⟩
theorem Q_rebuild {h : jxH} (hR : REL h) : jx_BM 108 [jR 0 0] h (fun q h1 => ∀ f9, jx_MW 91 [jR 20 0] (jx_st h1 33 0 f9) (RQ f9 q)) (fun z h1 => h1 = h ∧ z = 1 ∧ jx_MW 91 [jR 20 0] h (RT 1)) := by
  have hR0 := hR
  obtain ⟨len, dc, P, DD, kp, nd, ln, bb, pl, rl, h1, h2, h3, h4, h5, h6, h7, h8⟩ := hR
  have hk := R_kp h5
  refine ⟨_, _, B_V_rebuild h4.1 h4.2.2.1 h4.2.2.2.2.2.2.1 h6.1 (by omega) h5.1, fun q g hq => ?_, fun z g hq => ?_⟩
  · obtain ⟨q1, rfl, c, r, rfl, hr⟩ := hq
    intro f9
    refine jx_MW_mono (S_M_rebuild (kp := kp) (nd := nd) (ln := ln) (b := bb) (pl := pl) (h := jx_st (jx_st (jx_st (jx_st h 10 1 c) 18 0 r) 14 0 (upd (h 14 0) 6 (h 14 0 4))) 33 0 f9) h8.1 h4.2.1 h4.2.2.2.1 h4.2.2.2.2.2.1 h4.2.2.2.2.2.2.2 h6.2 (by omega) h5.1 h5.2.1 h5.2.2.2) (fun r' g' hq => ?_)
    obtain ⟨rfl, f, rfl, hf⟩ := hq.1 q1
    have hln : ln ≤ 80 := by have := h5.1; have := h5.2.1; omega
    refine ⟨rfl, h4.2.2.2.2.1.symm, rfl, len, dc, P, DD, kp, nd, ln, bb, pl, ln, h1, h2, h3, h4, h5, h6, ⟨h4.2.2.2.2.1, rfl, hln, fun i hi => ?_⟩, h8⟩
    show r i = f i
    have := h5.2.1
    rw [hf i hi, hr i (by omega) (by omega), pk_mul, nI_add]
  · obtain ⟨rfl, rfl, q1⟩ := hq
    refine ⟨rfl, rfl, jx_MW_mono (S_M_rebuild h8.1 h4.2.1 h4.2.2.2.1 h4.2.2.2.2.2.1 h4.2.2.2.2.2.2.2 h6.2 (by omega) h5.1 h5.2.1 h5.2.2.2) (fun r' g' hq => ?_)⟩
    obtain rfl := hq.2 q1
    exact ⟨rfl, REL_thr hR0 1⟩
noncomputable def pgs (dc : Nat → Nat) (len : Nat) (DD : Nat → Nat → Nat → Bool) (p : Nat) : Nat → Nat → Bool := if p < (len + 19) / 20 + 2 then pgD (dta dc len ((len + 19) / 20) p) 4 else DD p
theorem Q_print {h : jxH} (hR : REL h) : jx_BM 107 [jR 0 0] h (fun q h1 => ∀ f9, jx_MW 105 [jR 20 0] (jx_st h1 33 0 f9) (RQ f9 q)) (fun z h1 => h1 = h ∧ z = 1 ∧ jx_MW 105 [jR 20 0] h (RT 1)) := by
  have hR0 := hR
  obtain ⟨len, dc, P, DD, kp, nd, ln, bb, pl, rl, h1, h2, h3, h4, h5, h6, h7, h8⟩ := hR
  obtain ⟨s0, hs0⟩ := h8.2.1
  obtain ⟨s1, hs1⟩ := h8.2.2
  refine ⟨_, _, B_V_print h1.1 h1.2.2.1 h1.2.2.2.1 hs0 hs1, fun q g hq => ?_, fun z g hq => ?_⟩
  · obtain ⟨q1, rfl, q2, q3, q4, q5, q6, q7⟩ := hq
    have K : ∀ k i, k ≠ 0 → k ≠ 4 → k ≠ 5 → k ≠ 7 → k ≠ 10 → g k i = h k i := fun k i a1 a2 a3 a4 a5 => q2 k i a1 a2 a3 (Or.inl a4) (Or.inl a5)
    intro f9
    have k20 : jx_st g 33 0 f9 20 0 = h 20 0 := K 20 0 (by decide) (by decide) (by decide) (by decide) (by decide)
    have k21 : jx_st g 33 0 f9 21 0 = h 21 0 := K 21 0 (by decide) (by decide) (by decide) (by decide) (by decide)
    have k22 : jx_st g 33 0 f9 22 0 = h 22 0 := K 22 0 (by decide) (by decide) (by decide) (by decide) (by decide)
    have k23 : jx_st g 33 0 f9 23 0 = h 23 0 := K 23 0 (by decide) (by decide) (by decide) (by decide) (by decide)
    refine jx_MW_mono (S_M_print (len := len) (dc := dc) (DD := DD) (by rw [k23]; exact h8.1) (by rw [k20]; exact h1.2.1) h1.2.2.1 (by rw [k21]; exact h1.2.2.2.2) (by rw [k22]; exact h2.2.2.2.2)) (fun r' g' hq => ?_)
    obtain ⟨rfl, w1, w2, w3, w4⟩ := hq.1 q1
    have L : ∀ k i, k ≠ 0 → k ≠ 4 → k ≠ 5 → k ≠ 7 → k ≠ 10 → k ≠ 20 → k ≠ 22 → (k ≠ 26 ∧ k ≠ 33) → g' k i = h k i := fun k i a1 a2 a3 a4 a5 a6 a7 a8 => (w1 k i a6 a7 a8.1).trans ((jx_stk a8.2).trans (K k i a1 a2 a3 a4 a5))
    have M : ∀ k i, k ≠ 20 → k ≠ 22 → (k ≠ 26 ∧ k ≠ 33) → g' k i = g k i := fun k i a1 a2 a3 => (w1 k i a1 a2 a3.1).trans (jx_stk a3.2)
    have e0 : g' 0 0 = upd (h 0 0) 3 (nI ((len + 19) / 20 + 2)) := (M 0 0 (by decide) (by decide) (by decide)).trans q3
    have e20 : g' 20 0 = upd (upd (h 20 0) 0 (nI 0)) 3 (nI ((len + 19) / 20 + 2)) := by rw [w2, k20]
    have hl9 := h1.2.2.1
    refine ⟨by rw [e20]; rfl, rfl, (w1 33 0 (by decide) (by decide) (by decide)).trans (jx_st_same _ _ _ _), len, dc, (len + 19) / 20 + 2, pgs dc len DD, kp, nd, ln, bb, pl, rl, ?_, ?_, ?_, ?_, h5, ?_, ?_, ?_⟩
    · refine ⟨by rw [e0]; exact h1.1, by rw [e20]; exact h1.2.1, hl9, ?_, ?_⟩
      · rw [L 1 0 (by decide) (by decide) (by decide) (by decide) (by decide) (by decide) (by decide) (by decide)]; exact h1.2.2.2.1
      · rw [L 21 0 (by decide) (by decide) (by decide) (by decide) (by decide) (by decide) (by decide) (by decide)]; exact h1.2.2.2.2
    · refine ⟨by rw [e0]; rfl, by rw [e20]; rfl, by omega, fun p hp => ?_, fun p hp => ?_⟩
      · rw [M 4 p (by decide) (by decide) (by decide)]
        by_cases hpp : p < (len + 19) / 20 + 2
        · rw [pgs, if_pos hpp]; exact q5 p hpp
        · rw [pgs, if_neg hpp, q4 p (by omega)]; exact h2.2.2.2.1 p hp
      · by_cases hpp : p < (len + 19) / 20 + 2
        · rw [pgs, if_pos hpp]; exact w4 p hpp
        · rw [pgs, if_neg hpp]
          intro x y hx hy
          rw [w3 _ (by omega), k22]
          exact h2.2.2.2.2 p hp x y hx hy
    · intro r hr
      rw [L 13 0 (by decide) (by decide) (by decide) (by decide) (by decide) (by decide) (by decide) (by decide), L 29 0 (by decide) (by decide) (by decide) (by decide) (by decide) (by decide) (by decide) (by decide)]
      exact h3 r hr
    · have e14 : g' 14 0 = h 14 0 := L 14 0 (by decide) (by decide) (by decide) (by decide) (by decide) (by decide) (by decide) (by decide)
      have e17 : g' 17 0 = h 17 0 := L 17 0 (by decide) (by decide) (by decide) (by decide) (by decide) (by decide) (by decide) (by decide)
      have e30 : g' 30 0 = h 30 0 := L 30 0 (by decide) (by decide) (by decide) (by decide) (by decide) (by decide) (by decide) (by decide)
      refine ⟨by rw [e14]; exact h4.1, by rw [e20]; exact h4.2.1, by rw [e14]; exact h4.2.2.1, by rw [e20]; exact h4.2.2.2.1, by rw [e14]; exact h4.2.2.2.2.1, by rw [e20]; exact h4.2.2.2.2.2.1, by rw [e17]; exact h4.2.2.2.2.2.2.1, by rw [e30]; exact h4.2.2.2.2.2.2.2⟩
    · refine ⟨fun p hp => ?_, ?_⟩
      · rw [L 16 p (by decide) (by decide) (by decide) (by decide) (by decide) (by decide) (by decide) (by decide)]; exact h6.1 p hp
      · rw [L 31 0 (by decide) (by decide) (by decide) (by decide) (by decide) (by decide) (by decide) (by decide)]; exact h6.2
    · have e14 : g' 14 0 = h 14 0 := L 14 0 (by decide) (by decide) (by decide) (by decide) (by decide) (by decide) (by decide) (by decide)
      have e18 : g' 18 0 = h 18 0 := L 18 0 (by decide) (by decide) (by decide) (by decide) (by decide) (by decide) (by decide) (by decide)
      have e32 : g' 32 0 = h 32 0 := L 32 0 (by decide) (by decide) (by decide) (by decide) (by decide) (by decide) (by decide) (by decide)
      exact ⟨by rw [e14]; exact h7.1, by rw [e20]; exact h7.2.1, h7.2.2.1, by rw [e18, e32]; exact h7.2.2.2⟩
    · refine ⟨?_, ?_, ?_⟩
      · rw [L 23 0 (by decide) (by decide) (by decide) (by decide) (by decide) (by decide) (by decide) (by decide)]; exact h8.1
      · rw [M 10 0 (by decide) (by decide) (by decide)]; exact q6
      · rw [M 7 0 (by decide) (by decide) (by decide)]; exact q7
  · obtain ⟨rfl, rfl, q1⟩ := hq
    refine ⟨rfl, rfl, jx_MW_mono (S_M_print h8.1 h1.2.1 h1.2.2.1 h1.2.2.2.2 h2.2.2.2.2) (fun r' g' hq => ?_)⟩
    obtain rfl := hq.2 q1
    exact ⟨rfl, REL_thr hR0 1⟩
theorem sm_one {b : Nat → Bool} {q : Nat} : ∀ {n : Nat}, (∀ k, k < n → k ≠ q → b k = false) → b q = true → sm (fun k => (b k).toNat) 0 n = if q < n then 1 else 0
  | 0, _, _ => rfl
  | n + 1, h1, h2 => by
    show sm (fun k => (b k).toNat) 0 n + (b (0 + n)).toNat = _
    rw [sm_one (fun k hk => h1 k (by omega)) h2, Nat.zero_add]
    by_cases hq : q = n
    · subst hq
      rw [if_neg (Nat.lt_irrefl _), if_pos (by omega), h2]
      rfl
    · rw [h1 n (by omega) (Ne.symm hq)]
      show _ + 0 = _
      exact if_iff ⟨fun z => by omega, fun z => by omega⟩
theorem sm_bup {b : Nat → Bool} {q : Nat} (hb : b q = false) : ∀ {n : Nat}, sm (fun k => (bup b q true k).toNat) 0 n = sm (fun k => (b k).toNat) 0 n + if q < n then 1 else 0
  | 0 => rfl
  | n + 1 => by
    show sm (fun k => (bup b q true k).toNat) 0 n + (bup b q true (0 + n)).toNat = sm (fun k => (b k).toNat) 0 n + (b (0 + n)).toNat + _
    rw [sm_bup hb, Nat.zero_add]
    by_cases hq : q = n
    · subst hq
      rw [if_neg (Nat.lt_irrefl _), if_pos (by omega), hb, show bup b q true q = true by simp [bup]]
      rfl
    · rw [show bup b q true n = b n by simp [bup, Ne.symm hq], show (if q < n + 1 then 1 else 0) = if q < n then 1 else 0 from if_iff ⟨fun z => by omega, fun z => by omega⟩]
      omega
theorem sm_0 {f : Nat → Nat} : ∀ {n : Nat}, (∀ k, k < n → f k = 0) → sm f 0 n = 0
  | 0, _ => rfl
  | n + 1, h => by
    show sm f 0 n + f (0 + n) = 0
    rw [sm_0 (fun k hk => h k (by omega)), Nat.zero_add, Nat.zero_add, h n (by omega)]
theorem REL_g {h g : jxH} (hR : REL h) (Y : ∀ k i, k ≠ 20 → k ≠ 13 → k ≠ 29 → k ≠ 8 → k ≠ 12 → (k ≠ 7 ∨ i = 0) → (k < 24 ∨ (29 < k ∧ k < 33)) → g k i = h k i) (Y20 : g 20 0 = upd (h 20 0) 0 (nI 0)) (hE : R_err g) : REL g := by
  obtain ⟨len, dc, P, DD, kp, nd, ln, b, pl, rl, h1, h2, h3, h4, h5, h6, h7, h8⟩ := hR
  have Z : ∀ k, k ≠ 20 → k ≠ 13 → k ≠ 29 → k ≠ 8 → k ≠ 12 → (k < 24 ∨ (29 < k ∧ k < 33)) → g k 0 = h k 0 := fun k a1 a2 a3 a4 a5 a6 => Y k 0 a1 a2 a3 a4 a5 (Or.inr rfl) a6
  have z0 := Z 0 (by decide) (by decide) (by decide) (by decide) (by decide) (by decide)
  have z1 := Z 1 (by decide) (by decide) (by decide) (by decide) (by decide) (by decide)
  have z21 := Z 21 (by decide) (by decide) (by decide) (by decide) (by decide) (by decide)
  have z22 := Z 22 (by decide) (by decide) (by decide) (by decide) (by decide) (by decide)
  have z14 := Z 14 (by decide) (by decide) (by decide) (by decide) (by decide) (by decide)
  have z17 := Z 17 (by decide) (by decide) (by decide) (by decide) (by decide) (by decide)
  have z30 := Z 30 (by decide) (by decide) (by decide) (by decide) (by decide) (by decide)
  have z31 := Z 31 (by decide) (by decide) (by decide) (by decide) (by decide) (by decide)
  have z18 := Z 18 (by decide) (by decide) (by decide) (by decide) (by decide) (by decide)
  have z32 := Z 32 (by decide) (by decide) (by decide) (by decide) (by decide) (by decide)
  have z23 := Z 23 (by decide) (by decide) (by decide) (by decide) (by decide) (by decide)
  have z10 := Z 10 (by decide) (by decide) (by decide) (by decide) (by decide) (by decide)
  have z7 := Z 7 (by decide) (by decide) (by decide) (by decide) (by decide) (by decide)
  refine ⟨len, dc, P, DD, kp, nd, ln, b, pl, rl, ?_, ?_, hE, ?_, h5, ?_, ?_, ?_⟩
  · exact ⟨by rw [z0]; exact h1.1, by rw [Y20]; exact h1.2.1, h1.2.2.1, by rw [z1]; exact h1.2.2.2.1, by rw [z21]; exact h1.2.2.2.2⟩
  · refine ⟨by rw [z0]; exact h2.1, by rw [Y20]; exact h2.2.1, h2.2.2.1, fun p hp => ?_, fun p hp => by rw [z22]; exact h2.2.2.2.2 p hp⟩
    rw [Y 4 p (by decide) (by decide) (by decide) (by decide) (by decide) (Or.inl (by decide)) (by decide)]
    exact h2.2.2.2.1 p hp
  · exact ⟨by rw [z14]; exact h4.1, by rw [Y20]; exact h4.2.1, by rw [z14]; exact h4.2.2.1, by rw [Y20]; exact h4.2.2.2.1, by rw [z14]; exact h4.2.2.2.2.1, by rw [Y20]; exact h4.2.2.2.2.2.1, by rw [z17]; exact h4.2.2.2.2.2.2.1, by rw [z30]; exact h4.2.2.2.2.2.2.2⟩
  · refine ⟨fun p hp => ?_, by rw [z31]; exact h6.2⟩
    rw [Y 16 p (by decide) (by decide) (by decide) (by decide) (by decide) (Or.inl (by decide)) (by decide)]
    exact h6.1 p hp
  · exact ⟨by rw [z14]; exact h7.1, by rw [Y20]; exact h7.2.1, h7.2.2.1, by rw [z18, z32]; exact h7.2.2.2⟩
  · exact ⟨by rw [z23]; exact h8.1, by rw [z10]; exact h8.2.1, by rw [z7]; exact h8.2.2⟩
theorem hS4_e {h : jxH} (a c e d : Nat → Int32) {k i : Nat} (h8 : k ≠ 8) (h12 : k ≠ 12) (h13 : k ≠ 13) (h7 : k ≠ 7 ∨ i = 0) : hS4 h a c e d k i = h k i := by
  unfold hS4
  rw [jx_stk h12, jx_stk h13, jx_stk h8]
  rcases h7 with h7 | rfl
  · exact jx_stk h7
  · by_cases h7 : k = 7
    · subst h7; rfl
    · exact jx_stk h7
theorem Q_feed {pg tn : Int32} {h : jxH} (hR : REL h) : jx_BM 111 [jR 0 0, jI pg, jI tn] h (fun q h1 => ∀ f9, jx_MW 110 [jR 20 0, jI pg, jI tn] (jx_st h1 33 0 f9) (RQ f9 q)) (fun z h1 => h1 = h ∧ z = 0 ∧ jx_MW 110 [jR 20 0, jI pg, jI tn] h (RT 1)) := by
  have hR0 := hR
  obtain ⟨len, dc, P, DD, kp, nd, ln, bb, pl, rl, h1, h2, h3, h4, h5, h6, h7, h8⟩ := hR
  have hk := R_kp h5
  have hn4 := h5.1
  have hl9 := h5.2.1
  have hP6 := h2.2.2.1
  refine ⟨_, _, B_V_feed h2.1 h2.2.2.1 h2.2.2.2.1 h4.1 h4.2.2.1 h4.2.2.2.2.1 h4.2.2.2.2.2.2.1 (by omega) (by omega) (by omega), fun q g hq => ?_, fun z g hq => ?_⟩
  rotate_left
  · obtain ⟨rfl, rfl, q1⟩ := hq
    refine ⟨rfl, rfl, jx_MW_mono (S_M_feed h8.1 h2.2.1 h2.2.2.1 h2.2.2.2.2 h4.2.1 h4.2.2.2.1 h4.2.2.2.2.2.1 h4.2.2.2.2.2.2.2 (by omega) (by omega) (by omega)) (fun r' g' hq => ?_)⟩
    obtain rfl := hq.2 q1
    exact ⟨rfl, REL_thr hR0 1⟩
  obtain ⟨p, t, a, c, e, dd, hp, ht, rfl, rfl, hq⟩ := hq
  have hv : (hp9 (nI p) P && hp9 (nI t) 4) = true := by rw [hp9_n hp (by omega), hp9_n ht (by decide)]; rfl
  generalize hD : DD p = D at hq
  generalize hT : rdT D t = T at hq
  -- g agrees with h on the reference's cells
  have gM : ∀ k, 20 ≤ k → g k 0 = h k 0 := by
    have s4 : ∀ k, 20 ≤ k → hS4 h a c e dd k 0 = h k 0 := fun k hk => hS4_e a c e dd (by omega) (by omega) (by omega) (Or.inr rfl)
    rcases hq with ⟨-, -, -, rfl⟩ | ⟨-, -, ⟨-, -, rfl⟩ | ⟨-, -, ⟨-, -, -, rfl⟩ | ⟨-, -, k2, k3⟩⟩⟩
    · exact s4
    · exact s4
    · exact s4
    · have ht9 : ∀ k, 20 ≤ k → htk (hS4 h a c e dd) kp (rdd D T) k 0 = h k 0 := fun k hk => by
        unfold htk
        split
        · rw [jx_stk (by omega)]; exact s4 k hk
        · exact s4 k hk
      intro k hk
      cases hb9 : bb (rdd D T 0) with
      | true => rw [k2 hb9]; exact ht9 k hk
      | false =>
        obtain ⟨f, rfl, -⟩ := k3 hb9
        unfold hst
        rw [jx_stk (by omega), jx_stk (by omega), jx_stk (by omega)]
        exact ht9 k hk
  intro f9
  have m20 : jx_st g 33 0 f9 20 0 = h 20 0 := gM 20 (by decide)
  have m22 : jx_st g 33 0 f9 22 0 = h 22 0 := gM 22 (by decide)
  have m23 : jx_st g 33 0 f9 23 0 = h 23 0 := gM 23 (by decide)
  have m30 : jx_st g 33 0 f9 30 0 = h 30 0 := gM 30 (by decide)
  refine jx_MW_mono (S_M_feed (P := P) (kp := kp) (nd := nd) (ln := ln) (b := bb) (DD := DD) (by rw [m23]; exact h8.1) (by rw [m20]; exact h2.2.1) h2.2.2.1 (by rw [m22]; exact h2.2.2.2.2) (by rw [m20]; exact h4.2.1) (by rw [m20]; exact h4.2.2.2.1) (by rw [m20]; exact h4.2.2.2.2.2.1) (by rw [m30]; exact h4.2.2.2.2.2.2.2) (by omega) (by omega) (by omega)) (fun r' g' hm => ?_)
  obtain ⟨g1, hX, hm⟩ := hm.1 hv p t hp ht rfl rfl
  rw [hD, hT] at hm
  have X : ∀ k i, k ≠ 20 → k < 24 ∨ (29 < k ∧ k < 33) → g1 k i = g k i := fun k i h20 hk => (hX k i (by omega) (by omega) (by omega) (by omega) (by omega) (by omega)).trans ((jx_stk h20).trans (jx_stk (by omega)))
  have X33 : g1 33 0 = f9 := (hX 33 0 (by decide) (by decide) (by decide) (by decide) (by decide) (by decide)).trans ((jx_stk (by decide)).trans (jx_st_same _ _ _ _))
  have X20 : g1 20 0 = upd (h 20 0) 0 (nI 0) := (hX 20 0 (by decide) (by decide) (by decide) (by decide) (by decide) (by decide)).trans (by
    show upd (jx_st g 33 0 f9 20 0) 0 (nI 0) = _
    rw [m20])
  have X13 : g1 13 0 = g 13 0 := X 13 0 (by decide) (by decide)
  have same : g = hS4 h a c e dd → (∀ r, r < 4 → e r = g1 29 0 r) → REL g1 := fun hg he => REL_g hR0 (fun k i a1 a2 a3 a4 a5 a6 a7 => by
      rw [X k i a1 a7, hg]
      exact hS4_e a c e dd a4 a5 a2 a6) X20 (fun r hr => by rw [X13, hg]; exact he r hr)
  have t0 : g1 20 0 0 = nI 0 := by rw [X20]; rfl
  rcases hq with ⟨c1, rfl, c2, hg⟩ | ⟨c1, c2, hq⟩
  · rcases hm with ⟨d1, rfl, d2, rfl⟩ | ⟨d1, -⟩
    · exact ⟨t0, rfl, X33, same hg (fun r hr => by rw [c2 r hr, d2 r hr])⟩
    · exact absurd c1 (by omega)
  rcases hm with ⟨d1, -⟩ | ⟨d1, d2, hm⟩
  · exact absurd c1 (by omega)
  have ee : ∀ r, r < 4 → e r = g1 29 0 r := fun r hr => by rw [c2 r hr, d2 r hr]
  rcases hq with ⟨c3, rfl, hg⟩ | ⟨c3, c4, hq⟩
  · rcases hm with ⟨d3, rfl, rfl⟩ | ⟨d3, -⟩
    · exact ⟨t0, rfl, X33, same hg ee⟩
    · exact absurd (c3.symm.trans d3) (by decide)
  rcases hm with ⟨d3, -⟩ | ⟨d3, d4, hm⟩
  · exact absurd (c3.symm.trans d3) (by decide)
  generalize rdd D T = d at *
  have htp := c3
  simp only [Bool.and_eq_true, tp, decide_eq_true_eq] at htp
  obtain ⟨-, tp1, tp2, tp3, tp4, tp5⟩ := htp
  rcases hq with ⟨c5, c6, rfl, hg⟩ | ⟨c5, rfl, c6, c7⟩
  · rcases hm with ⟨d5, d6, rfl, rfl⟩ | ⟨d5, -⟩
    · exact ⟨t0, rfl, X33, same hg ee⟩
    · exact absurd d5 (by
        rintro (z | z)
        · exact c5 z
        · exact c6 z)
  rcases hm with ⟨d5, d6, -⟩ | ⟨d5, rfl, d6, d7⟩
  · exact absurd c5 (by
      rintro (z | z)
      · exact d5 z
      · exact d6 z)
  cases hb9 : bb (d 0) with
  | true =>
    obtain rfl := d6 hb9
    have hk0 : ¬ kp = 0 := fun z => by
      have := h5.2.2.1 z (d 0) (by omega)
      rw [hb9] at this
      cases this
    have hg := c6 hb9
    rw [htk, if_neg hk0] at hg
    exact ⟨t0, rfl, X33, same hg ee⟩
  | false =>
    obtain ⟨f, hg, hf⟩ := c7 hb9
    obtain ⟨f2, rfl, hf2⟩ := d7 hb9
    -- the class's cells
    have gk : ∀ k i, k < 20 → k ≠ 14 → k ≠ 16 → k ≠ 17 → k ≠ 8 → k ≠ 12 → k ≠ 13 → (k ≠ 7 ∨ i = 0) → g k i = h k i := fun k i _ a1 a2 a3 a4 a5 a6 a7 => by
      rw [hg]
      unfold hst
      rw [jx_stk a1, jx_stk a3, jx_stk a2]
      unfold htk
      split
      · rw [jx_stk a1]; exact hS4_e a c e dd a4 a5 a6 a7
      · exact hS4_e a c e dd a4 a5 a6 a7
    have g14 : g 14 0 2 = nI (kp + 1) ∧ g 14 0 3 = nI (d 1) ∧ g 14 0 4 = nI (d 2 + 16 * d 3) ∧ g 14 0 6 = nI rl := by
      rw [hg]
      unfold hst
      rw [jx_st_same]
      by_cases hk0 : kp = 0
      · rw [htk, if_pos hk0, jx_st_same]
        refine ⟨?_, rfl, rfl, h7.1⟩
        show h 14 0 2 + nI 1 = _
        rw [h4.1, nI_add]
      · rw [htk, if_neg hk0]
        obtain ⟨z1, z2⟩ : d 1 = nd ∧ d 2 + 16 * d 3 = ln := by
          rcases c5 with z | z
          · exact absurd z hk0
          · exact z
        refine ⟨?_, h4.2.2.1.trans (by rw [z1]), h4.2.2.2.2.1.trans (by rw [z2]), h7.1⟩
        show h 14 0 2 + nI 1 = _
        rw [h4.1, nI_add]
    have t17 : htk (hS4 h a c e dd) kp d 17 0 = h 17 0 := by
      unfold htk
      split <;> rfl
    have t16 : ∀ i, htk (hS4 h a c e dd) kp d 16 i = h 16 i := fun i => by
      unfold htk
      split
      · rw [jx_stk (by decide)]; exact hS4_e a c e dd (by decide) (by decide) (by decide) (Or.inl (by decide))
      · exact hS4_e a c e dd (by decide) (by decide) (by decide) (Or.inl (by decide))
    have t13 : htk (hS4 h a c e dd) kp d 13 0 = e := by
      unfold htk
      split <;> rfl
    have g17 : g 17 0 = upd (h 17 0) (d 0) (nI 1) := by
      rw [hg]
      unfold hst
      rw [jx_stk (by decide), jx_st_same, t17]
    have g13 : g 13 0 = e := by
      rw [hg]
      unfold hst
      rw [jx_stk (by decide), jx_stk (by decide), jx_stk (by decide), t13]
    have g16 : ∀ i, g 16 i = if i = d 0 then f else h 16 i := fun i => by
      rw [hg]
      unfold hst
      rw [jx_stk (by decide), jx_stk (by decide)]
      by_cases hi : i = d 0
      · subst hi; rw [jx_st_same, if_pos rfl]
      · rw [jx_st_ne (fun z => hi (Prod.mk.inj z).2), if_neg hi, t16]
    have N : ∀ k i, k ≠ 20 → k ≠ 30 → k ≠ 31 → (k < 24 ∨ (29 < k ∧ k < 33)) → jx_st (jx_st (jx_st g1 30 0 (upd (g1 30 0) (d 0) (nI 1))) 20 0 (upd (upd (upd (g1 20 0) 12 (nI (kp + 1))) 13 (nI (d 1))) 14 (nI (d 2 + 16 * d 3)))) 31 0 f2 k i = g k i := fun k i a1 a2 a3 a4 => by
      rw [jx_stk a3, jx_stk a1, jx_stk a2]
      exact X k i a1 a4
    have N20 : jx_st (jx_st (jx_st g1 30 0 (upd (g1 30 0) (d 0) (nI 1))) 20 0 (upd (upd (upd (g1 20 0) 12 (nI (kp + 1))) 13 (nI (d 1))) 14 (nI (d 2 + 16 * d 3)))) 31 0 f2 20 0 = upd (upd (upd (upd (h 20 0) 0 (nI 0)) 12 (nI (kp + 1))) 13 (nI (d 1))) 14 (nI (d 2 + 16 * d 3)) := by
      rw [jx_stk (by decide), jx_st_same, X20]
    have x30 : g1 30 0 = h 30 0 := (X 30 0 (by decide) (by decide)).trans (gM 30 (by decide))
    have x31 : g1 31 0 = h 31 0 := (X 31 0 (by decide) (by decide)).trans (gM 31 (by decide))
    have hsm : kp + 1 = sm (fun k => (bup bb (d 0) true k).toNat) 0 (d 1 + 2) := by
      rw [sm_bup hb9, if_pos (by omega)]
      congr 1
      by_cases hk0 : kp = 0
      · rw [hk0, sm_0 (fun k hk => by rw [h5.2.2.1 hk0 k (by omega)]; rfl)]
      · have z : d 1 = nd := by
          rcases c5 with z | z
          · exact absurd z hk0
          · exact z.1
        rw [z]
        exact h5.2.2.2 (by omega)
    refine ⟨?_, rfl, X33, len, dc, P, DD, kp + 1, d 1, d 2 + 16 * d 3, bup bb (d 0) true, (fun p => if p = d 0 then (fun m => d (4 + m)) else pl p), rl, ?_, ?_, ?_, ?_, ⟨by omega, by omega, fun z => absurd z (by omega), fun _ => hsm⟩, ?_, ?_, ?_⟩
    · rw [N20]; rfl
    · refine ⟨?_, ?_, h1.2.2.1, ?_, ?_⟩
      · rw [N 0 0 (by decide) (by decide) (by decide) (by decide), gk 0 0 (by decide) (by decide) (by decide) (by decide) (by decide) (by decide) (by decide) (Or.inr rfl)]; exact h1.1
      · rw [N20]; exact h1.2.1
      · rw [N 1 0 (by decide) (by decide) (by decide) (by decide), gk 1 0 (by decide) (by decide) (by decide) (by decide) (by decide) (by decide) (by decide) (Or.inr rfl)]; exact h1.2.2.2.1
      · rw [N 21 0 (by decide) (by decide) (by decide) (by decide), gM 21 (by decide)]; exact h1.2.2.2.2
    · refine ⟨?_, ?_, h2.2.2.1, fun p hp => ?_, fun p hp => ?_⟩
      · rw [N 0 0 (by decide) (by decide) (by decide) (by decide), gk 0 0 (by decide) (by decide) (by decide) (by decide) (by decide) (by decide) (by decide) (Or.inr rfl)]; exact h2.1
      · rw [N20]; exact h2.2.1
      · rw [N 4 p (by decide) (by decide) (by decide) (by decide), gk 4 p (by decide) (by decide) (by decide) (by decide) (by decide) (by decide) (by decide) (Or.inl (by decide))]; exact h2.2.2.2.1 p hp
      · rw [N 22 0 (by decide) (by decide) (by decide) (by decide), gM 22 (by decide)]; exact h2.2.2.2.2 p hp
    · intro r hr
      rw [N 13 0 (by decide) (by decide) (by decide) (by decide), g13]
      exact ee r hr
    · refine ⟨?_, ?_, ?_, ?_, ?_, ?_, ?_, ?_⟩
      · rw [N 14 0 (by decide) (by decide) (by decide) (by decide)]; exact g14.1
      · rfl
      · rw [N 14 0 (by decide) (by decide) (by decide) (by decide)]; exact g14.2.1
      · rfl
      · rw [N 14 0 (by decide) (by decide) (by decide) (by decide)]; exact g14.2.2.1
      · rfl
      · rw [N 17 0 (by decide) (by decide) (by decide) (by decide), g17]
        exact h4.2.2.2.2.2.2.1.put (k := d 0) true
      · show BA (upd (g1 30 0) (d 0) (nI 1)) 6 _
        rw [x30]
        exact h4.2.2.2.2.2.2.2.put (k := d 0) true
    · refine ⟨fun p hp => ?_, fun p hp m hm => ?_⟩
      · rw [N 16 p (by decide) (by decide) (by decide) (by decide), g16 p]
        by_cases hpd : p = d 0
        · rw [if_pos hpd]
          show AR f 40 16 (if p = d 0 then (fun m => d (4 + m)) else pl p)
          rw [if_pos hpd]
          exact hf
        · rw [if_neg hpd]
          show AR (h 16 p) 40 16 (if p = d 0 then (fun m => d (4 + m)) else pl p)
          rw [if_neg hpd]
          exact h6.1 p hp
      · rw [jx_st_same, hf2 (40 * p + m)]
        show _ = nI ((if p = d 0 then (fun m => d (4 + m)) else pl p) m) ∧ (if p = d 0 then (fun m => d (4 + m)) else pl p) m < 16
        by_cases hpd : p = d 0
        · rw [if_pos (by omega), if_pos hpd, show 40 * p + m - 40 * d 0 = m by omega]
          exact ⟨rfl, d4 _ (by omega)⟩
        · rw [if_neg (by omega), if_neg hpd, x31]
          exact h6.2 p hp m hm
    · refine ⟨?_, ?_, h7.2.2.1, fun i hi => ?_⟩
      · rw [N 14 0 (by decide) (by decide) (by decide) (by decide)]; exact g14.2.2.2
      · rw [N20]; exact h7.2.1
      · rw [N 18 0 (by decide) (by decide) (by decide) (by decide), gk 18 0 (by decide) (by decide) (by decide) (by decide) (by decide) (by decide) (by decide) (Or.inr rfl), N 32 0 (by decide) (by decide) (by decide) (by decide), gM 32 (by decide)]
        exact h7.2.2.2 i hi
    · refine ⟨?_, ?_, ?_⟩
      · rw [N 23 0 (by decide) (by decide) (by decide) (by decide), gM 23 (by decide)]; exact h8.1
      · rw [N 10 0 (by decide) (by decide) (by decide) (by decide), gk 10 0 (by decide) (by decide) (by decide) (by decide) (by decide) (by decide) (by decide) (Or.inr rfl)]; exact h8.2.1
      · rw [N 7 0 (by decide) (by decide) (by decide) (by decide), gk 7 0 (by decide) (by decide) (by decide) (by decide) (by decide) (by decide) (by decide) (Or.inr rfl)]; exact h8.2.2
