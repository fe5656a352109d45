/-! The reference: feed. -/
def FX (h h' : jxH) : Prop := ∀ k i, k ≠ 24 → k ≠ 25 → k ≠ 26 → k ≠ 27 → k ≠ 28 → k ≠ 29 → h' k i = h k i
theorem FX.st {h hh : jxH} (H : FX h hh) {k : Nat} (i : Nat) (f : Nat → Int32) (hk : k = 24 ∨ k = 25 ∨ k = 26 ∨ k = 27 ∨ k = 28 ∨ k = 29) : FX h (jx_st hh k i f) := fun k' i' h1 h2 h3 h4 h5 h6 => by
  rw [jx_st_ne (fun z => by cases z; omega)]
  exact H k' i' h1 h2 h3 h4 h5 h6
theorem tu_succ (D : Nat → Nat → Bool) {s x y : Nat} (hs : s < 4) (hx : x < 18) (hy : y < 18) : tu 1 (tu s D) x y = tu ((s + 1) % 4) D x y := by
  rcases (show s = 0 ∨ s = 1 ∨ s = 2 ∨ s = 3 by omega) with rfl | rfl | rfl | rfl
  · rfl
  · rfl
  · show D (17 - y) (17 - (17 - x)) = D (17 - y) x
    rw [show 17 - (17 - x) = x by omega]
  · show D (17 - (17 - x)) y = D x y
    rw [show 17 - (17 - x) = x by omega]
def fdK (h1 : jxH) (kp nd ln : Nat) (b : Nat → Bool) (d : Nat → Nat) (r : Int32) (h' : jxH) : Prop :=
  (¬ kp = 0 ∧ ¬ (d 1 = nd ∧ d 2 + 16 * d 3 = ln) ∧ r = -nI 2 ∧ h' = h1) ∨
  ((kp = 0 ∨ (d 1 = nd ∧ d 2 + 16 * d 3 = ln)) ∧ r = nI (d 0) ∧ (b (d 0) = true → h' = h1) ∧
    (b (d 0) = false → ∃ f, h' = jx_st (jx_st (jx_st h1 30 0 (upd (h1 30 0) (d 0) (nI 1))) 20 0 (upd (upd (upd (h1 20 0) 12 (nI (kp + 1))) 13 (nI (d 1))) 14 (nI (d 2 + 16 * d 3)))) 31 0 f ∧ ∀ k, f k = if 40 * d 0 ≤ k ∧ k < 40 * d 0 + 40 then nI (d (4 + (k - 40 * d 0))) else h1 31 0 k))
def fdE (h : jxH) (D : Nat → Nat → Bool) (t kp nd ln : Nat) (b : Nat → Bool) (r : Int32) (h' : jxH) : Prop := ∃ h1, FX (thr h 0) h1 ∧
  ((8 < ftn D (rdT D t) ∧ r = -nI 1 ∧ (∀ j, j < 4 → h1 29 0 j = -nI 2) ∧ h' = h1) ∨
   (ftn D (rdT D t) ≤ 8 ∧ (∀ j, j < 4 → h1 29 0 j = (cor (rw9 D (rdT D t) j)).1) ∧
    (((alw D (rdT D t) 4 && tp (rdd D (rdT D t))) = false ∧ r = -nI 1 ∧ h' = h1) ∨
     ((alw D (rdT D t) 4 && tp (rdd D (rdT D t))) = true ∧ (∀ k, k < 44 → rdd D (rdT D t) k < 16) ∧ fdK h1 kp nd ln b (rdd D (rdT D t)) r h'))))
theorem S_M_feed {pg tn : Int32} {P kp nd ln : Nat} {b : Nat → Bool} {DD : Nat → Nat → Nat → Bool} {h : jxH} (hw : AR (h 23 0) 15 16 gf_pw) (hP : h 20 0 3 = nI P) (hP6 : P ≤ 6) (hD : ∀ p, p < 6 → PA (h 22 0) p (DD p)) (hk : h 20 0 12 = nI kp) (hn : h 20 0 13 = nI nd) (hl : h 20 0 14 = nI ln) (hb : BA (h 30 0) 6 b) (hk9 : kp < 100) (hn9 : nd < 1000) (hl9 : ln < 1000) : jx_MW 110 [jR 20 0, jI pg, jI tn] h
    (fun r h' => ((hp9 pg P && hp9 tn 4) = true → ∀ p t, p < P → t < 4 → pg = nI p → tn = nI t → fdE h (DD p) t kp nd ln b r h') ∧ ((hp9 pg P && hp9 tn 4) = false → h' = thr h 1)) := by
  refine jx_MW_by [some (jR 20 0), some (jI pg), some (jI tn), none, none, none, none] (by decide) rfl (Nat.le_of_ble_eq_true rfl) (fun V rule => ?_)
  have e3 : tn ≤ nI 3 ↔ tn < nI 4 := by
    rw [Int32.le_iff_toInt_le, Int32.lt_iff_toInt_lt, show (nI 3).toInt = 3 from nI_toInt (by decide), show (nI 4).toInt = 4 from nI_toInt (by decide)]
    omega
  cases e : hp9 pg P && hp9 tn 4 with
  | false =>
    have bad : ∀ r, ((hp9 pg P && hp9 tn 4) = true → ∀ p t, p < P → t < 4 → pg = nI p → tn = nI t → fdE h (DD p) t kp nd ln b r (thr h 1)) ∧ ((hp9 pg P && hp9 tn 4) = false → thr h 1 = thr h 1) := fun r => And.intro (fun z => absurd (e.symm.trans z) (by decide)) (fun _ => rfl)
    refine rule (fun _ => false) 60 0 _ _ _ ?_
    refine br_c (fun q1 => ?_) (fun q1 => ?_)
    · refine pk_eq 1 0 (fun z => absurd z (by decide)) (fun _ => ?_)
      exact bad _
    refine br_c (fun q2 => ?_) (fun q2 => ?_)
    · refine pk_eq 1 0 (fun z => absurd z (by decide)) (fun _ => ?_)
      exact bad _
    refine br_c (fun q3 => ?_) (fun q3 => ?_)
    · refine pk_eq 1 0 (fun z => absurd z (by decide)) (fun _ => ?_)
      exact bad _
    refine br_c (fun q4 => ?_) (fun q4 => ?_)
    · have z2 : pg < nI P := by rw [← hP]; exact Int32.not_le.mp q2
      have z4 : tn < nI 4 := e3.mp q4
      rw [hp9, hp9, decide_eq_true q1, decide_eq_true q3, decide_eq_true z2, decide_eq_true z4] at e
      cases e
    · refine pk_eq 1 0 (fun z => absurd z (by decide)) (fun _ => ?_)
      exact bad _
  | true =>
    have e9 := e
    rw [Bool.and_eq_true] at e
    obtain ⟨p, hp, rfl⟩ := hp9_t (by omega) e.1
    obtain ⟨t, ht, rfl⟩ := hp9_t (by decide) e.2
    have fin : ∀ r h', fdE h (DD p) t kp nd ln b r h' → (((hp9 (nI p) P && hp9 (nI t) 4) = true → ∀ p' t', p' < P → t' < 4 → nI p = nI p' → nI t = nI t' → fdE h (DD p') t' kp nd ln b r h') ∧ ((hp9 (nI p) P && hp9 (nI t) 4) = false → h' = thr h 1)) := fun r h' hf => And.intro (fun _ p' t' h1 h2 e1 e2 => by
      rw [← jn_inj (by omega) (by omega) e1, ← jn_inj (by omega) (by omega) e2]
      exact hf) (fun z => absurd (e9.symm.trans z) (by decide))
    have hT : rdT (DD p) t < 4 := (ub_lt ht 3).1
    have hF : (ub (ftn (DD p)) t 3).2 = ftn (DD p) (rdT (DD p) t) := (ub_lt ht 3).2
    have hF9 := ftn_le (DD p) (rdT (DD p) t)
    -- turned upright
    have up := fun (bt : Nat) (hbt : bt < 4) (he : (t + bt) % 4 = rdT (DD p) t) (h8 : ftn (DD p) (rdT (DD p) t) ≤ 8) (l4 o6 : Option jxV) => jl_up (P := fun i => ∀ hh : jxH, FX (thr h 0) hh → SN (hh 24 0) (tu ((t + i) % 4) (DD p)) → V 187 [some (jR 20 0), some (jI (nI p)), some (jI (nI t)), some (jI (nI bt)), l4, some (jI (nI i)), o6] [] hh) bt
      (by
        intro hh hX hs
        refine rule (fun _ => false) 40 187 _ _ _ ?_
        refine pk_le bt bt (fun _ => ?_) (fun q => absurd q (Nat.lt_irrefl _))
        rw [he] at hs
        have hw' : AR (hh 23 0) 15 16 gf_pw := by rw [hX 23 0 (by decide) (by decide) (by decide) (by decide) (by decide) (by decide)]; exact hw
        refine jx_cal (S_M_readRows hw' hs) rfl (fun q h2 hq => ?_)
        obtain ⟨rfl, a, g, er, d, rfl, h29, h28⟩ := hq
        have hX2 : FX (thr h 0) (hM4 hh a g er d) := (((hX.st 0 a (by decide)).st 0 g (by decide)).st 0 er (by decide)).st 0 d (by decide)
        refine pk_eq (alw (DD p) (rdT (DD p) t) 4).toNat 0 (fun q => ?_) (fun q => ?_) rfl rfl (by have := toNat_le (alw (DD p) (rdT (DD p) t) 4); omega) (by decide)
        · exact fin _ _ (Exists.intro _ (And.intro hX2 (Or.inr (And.intro h8 (And.intro h29 (Or.inl (And.intro (by rw [tn0 q]; rfl) (And.intro rfl rfl))))))))
        · have x20 : hM4 hh a g er d 20 0 = thr h 0 20 0 := hX2 20 0 (by decide) (by decide) (by decide) (by decide) (by decide) (by decide)
          have hk' : hM4 hh a g er d 20 0 12 = nI kp := by rw [x20]; exact hk
          have hn' : hM4 hh a g er d 20 0 13 = nI nd := by rw [x20]; exact hn
          have hl' : hM4 hh a g er d 20 0 14 = nI ln := by rw [x20]; exact hl
          have hb' : BA (hM4 hh a g er d 30 0) 6 b := by rw [hX2 30 0 (by decide) (by decide) (by decide) (by decide) (by decide) (by decide)]; exact hb
          have hd' : AR (hM4 hh a g er d 28 0) 44 16 (rdd (DD p) (rdT (DD p) t)) := h28
          refine jx_cal (S_M_keep hk' hn' hl' hb' hd' hk9 hn9 hl9) rfl (fun r h3 hq => ?_)
          rcases hq with ⟨k1, rfl, rfl⟩ | ⟨k1, k2⟩
          · exact fin _ _ (Exists.intro _ (And.intro hX2 (Or.inr (And.intro h8 (And.intro h29 (Or.inl (And.intro (by rw [tn1 q, k1]; rfl) (And.intro rfl rfl))))))))
          · exact fin _ _ (Exists.intro _ (And.intro hX2 (Or.inr (And.intro h8 (And.intro h29 (Or.inr (And.intro (by rw [tn1 q, k1]; rfl) (And.intro (fun k hk => h28.lt hk) k2))))))))
      )
      (fun i hi ih => by
        intro hh hX hs
        refine rule (Nat.beq 187) 20 187 _ _ _ ?_
        refine pk_le bt i (fun q => absurd q (by omega)) (fun _ => ?_)
        refine jx_cal (S_M_turn hs) rfl (fun r h' hq => ?_)
        obtain ⟨g, f, rfl, hf⟩ := hq
        refine jv_to (V := V) (ih _ ((hX.st 0 g (by decide)).st 0 f (by decide)) ?_) (by rw [nI_add]) rfl rfl
        rw [jx_st_same]
        refine hf.congr (fun x y hx hy => ?_)
        rw [tu_succ _ (Nat.mod_lt _ (by decide)) hx hy, show ((t + i) % 4 + 1) % 4 = (t + (i + 1)) % 4 by omega])
    -- the errors forgotten
    have fg := fun (bt : Nat) (hbt : bt < 4) (he : (t + bt) % 4 = rdT (DD p) t) (o6 : Option jxV) => jl_up (P := fun i => ∀ hh : jxH, FX (thr h 0) hh → SN (hh 24 0) (tu (t % 4) (DD p)) → (∀ j, j < i → hh 29 0 j = -nI 2) → V 154 [some (jR 20 0), some (jI (nI p)), some (jI (nI t)), some (jI (nI bt)), some (jI (nI (ftn (DD p) (rdT (DD p) t)))), some (jI (nI i)), o6] [] hh) 4
      (by
        intro hh hX hs h29
        refine rule (Nat.beq 187) 20 154 _ _ _ ?_
        refine pk_le 4 4 (fun _ => ?_) (fun q => absurd q (Nat.lt_irrefl _))
        refine pk_le (ftn (DD p) (rdT (DD p) t)) 8 (fun q => ?_) (fun q => ?_) rfl rfl (by omega) (by decide)
        · exact up bt hbt he q (some (jI (nI (ftn (DD p) (rdT (DD p) t))))) o6 0 (Nat.zero_le _) hh hX hs
        · exact fin _ _ (Exists.intro _ (And.intro hX (Or.inl (And.intro q (And.intro rfl (And.intro h29 rfl)))))))
      (fun i hi ih => by
        intro hh hX hs h29
        refine rule (Nat.beq 154) 20 154 _ _ _ ?_
        refine pk_le 4 i (fun q => absurd q (by omega)) (fun _ => ?_)
        refine Exists.intro i (And.intro (And.intro hi rfl) ?_)
        refine jv_to (V := V) (ih (jx_st hh 29 0 (upd (hh 29 0) i (-nI 2))) (hX.st 0 _ (by decide)) hs (fun j hj => ?_)) (by rw [nI_add]) rfl rfl
        rw [jx_st_same]
        by_cases hji : j = i
        · subst hji; exact upd_same _ _ _
        · rw [upd_ne _ _ hji]; exact h29 j (by omega))
    -- the best of four
    have best := jl_up (P := fun k => ∀ bt ls : Nat, (k = 0 → bt = 0 ∧ ls = 999) → (0 < k → bt < 4 ∧ (t + bt) % 4 = (ub (ftn (DD p)) t (k - 1)).1 ∧ ls = (ub (ftn (DD p)) t (k - 1)).2) → ∀ (o6 : Option jxV) (hh : jxH), FX (thr h 0) hh → SN (hh 24 0) (tu ((t + k) % 4) (DD p)) → V 99 [some (jR 20 0), some (jI (nI p)), some (jI (nI t)), some (jI (nI bt)), some (jI (nI ls)), some (jI (nI k)), o6] [] hh) 4
      (by
        intro bt ls _ h4 o6 hh hX hs
        obtain ⟨h5, h6, h7⟩ := h4 (by decide)
        refine rule (Nat.beq 154) 20 99 _ _ _ ?_
        refine pk_le 4 4 (fun _ => ?_) (fun q => absurd q (Nat.lt_irrefl _))
        rw [show (t + 4) % 4 = t % 4 by omega] at hs
        exact jv_to (V := V) (fg bt h5 h6 o6 0 (Nat.zero_le _) hh hX hs (fun j hj => absurd hj (Nat.not_lt_zero _))) (by rw [h7, ← hF]) rfl rfl)
      (fun k hk ih => by
        intro bt ls h0 h4 o6 hh hX hs
        refine rule (Nat.beq 99) 60 99 _ _ _ ?_
        refine pk_le 4 k (fun q => absurd q (by omega)) (fun _ => ?_)
        refine jx_cal (S_M_frameErrors hs) rfl (fun r h' hq => ?_)
        obtain ⟨rfl, rfl⟩ := hq
        have f68 : ftn (DD p) ((t + k) % 4) ≤ 68 := ftn_le _ _
        have hls : ls < 1000 := by
          by_cases hk0 : k = 0
          · have := (h0 hk0).2; omega
          · have h8 := (h4 (by omega)).2.2
            have h9 := (ub_lt (F := ftn (DD p)) ht (k - 1)).2
            have h10 := ftn_le (DD p) (ub (ftn (DD p)) t (k - 1)).1
            omega
        have nxt : ∀ b2 l2, (b2 < 4 ∧ (t + b2) % 4 = (ub (ftn (DD p)) t k).1 ∧ l2 = (ub (ftn (DD p)) t k).2) → jx_MW 40 [jR 20 0] h' (fun r h3 => V 99 [some (jR 20 0), some (jI (nI p)), some (jI (nI t)), some (jI (nI b2)), some (jI (nI l2)), some (jI (nI k + nI 1)), some (jI (nI (fts (tu ((t + k) % 4) (DD p)) 17)))] [] h3) := by
          intro b2 l2 hb2
          refine jx_cal (S_M_turn hs) rfl (fun r h3 hq => ?_)
          obtain ⟨g, f, rfl, hf⟩ := hq
          refine jv_to (V := V) (ih b2 l2 (fun z => absurd z (by omega)) (fun _ => hb2) (some (jI (nI (fts (tu ((t + k) % 4) (DD p)) 17)))) _ ((hX.st 0 g (by decide)).st 0 f (by decide)) ?_) (by rw [nI_add]) rfl rfl
          rw [jx_st_same]
          refine hf.congr (fun x y hx hy => ?_)
          rw [tu_succ _ (Nat.mod_lt _ (by decide)) hx hy, show ((t + k) % 4 + 1) % 4 = (t + (k + 1)) % 4 by omega]
        refine pk_le ls (ftn (DD p) ((t + k) % 4)) (fun q => ?_) (fun q => ?_) rfl rfl (by omega) (by omega)
        · refine pk_le ls (ftn (DD p) ((t + k) % 4)) (fun _ => ?_) (fun z => absurd z (by omega)) rfl rfl (by omega) (by omega)
          have hk0 : 0 < k := by
            by_cases hk0 : k = 0
            · have := (h0 hk0).2; omega
            · omega
          refine nxt bt ls ?_
          obtain ⟨h5, h6, h7⟩ := h4 hk0
          have eu : ub (ftn (DD p)) t k = ub (ftn (DD p)) t (k - 1) := by
            obtain ⟨n, rfl⟩ : ∃ n, k = n + 1 := ⟨k - 1, by omega⟩
            rw [Nat.add_sub_cancel] at h7 ⊢
            rw [ub, if_neg (by omega)]
          rw [eu]
          exact ⟨h5, h6, h7⟩
        · refine pk_le ls (ftn (DD p) ((t + k) % 4)) (fun z => absurd z (by omega)) (fun _ => ?_) rfl rfl (by omega) (by omega)
          refine nxt k (ftn (DD p) ((t + k) % 4)) ⟨hk, ?_⟩
          by_cases hk0 : k = 0
          · subst hk0
            have et : (t + 0) % 4 = t := by omega
            rw [et]
            exact ⟨rfl, rfl⟩
          · obtain ⟨h5, h6, h7⟩ := h4 (by omega)
            obtain ⟨n, rfl⟩ : ∃ n, k = n + 1 := ⟨k - 1, by omega⟩
            rw [Nat.add_sub_cancel] at h7
            rw [ub, if_pos (by omega)]
            exact ⟨rfl, rfl⟩)
    -- turned as fed
    have turned := jl_up (P := fun i => ∀ hh : jxH, FX (thr h 0) hh → SN (hh 24 0) (tu i (DD p)) → V 74 [some (jR 20 0), some (jI (nI p)), some (jI (nI t)), some (jI (nI i)), none, none, none] [] hh) t
      (by
        intro hh hX hs
        refine rule (Nat.beq 99) 20 74 _ _ _ ?_
        refine pk_le t t (fun _ => ?_) (fun q => absurd q (Nat.lt_irrefl _))
        refine best 0 (Nat.zero_le _) 0 999 (fun _ => ⟨rfl, rfl⟩) (fun z => absurd z (Nat.lt_irrefl _)) none hh hX ?_
        rw [show (t + 0) % 4 = t by omega]
        exact hs)
      (fun i hi ih => by
        intro hh hX hs
        refine rule (Nat.beq 74) 20 74 _ _ _ ?_
        refine pk_le t i (fun q => absurd q (by omega)) (fun _ => ?_)
        refine jx_cal (S_M_turn hs) rfl (fun r h' hq => ?_)
        obtain ⟨g, f, rfl, hf⟩ := hq
        refine jv_to (V := V) (ih _ ((hX.st 0 g (by decide)).st 0 f (by decide)) ?_) (by rw [nI_add]) rfl rfl
        rw [jx_st_same]
        refine hf.congr (fun x y hx hy => ?_)
        rw [tu_succ _ (by omega) hx hy, show (i + 1) % 4 = i + 1 by omega])
    -- the page taken
    have copy := jl_up (P := fun k => ∀ f : Nat → Int32, (∀ j, j < k → f j = nI (DD p (j % 18) (j / 18)).toNat) → V 41 [some (jR 20 0), some (jI (nI p)), some (jI (nI t)), some (jI (nI k)), none, none, none] [] (jx_st (thr h 0) 24 0 f)) 324
      (by
        intro f hf
        refine rule (Nat.beq 74) 20 41 _ _ _ ?_
        refine pk_le 324 324 (fun _ => ?_) (fun q => absurd q (Nat.lt_irrefl _))
        refine turned 0 (Nat.zero_le _) _ (FX.st (fun _ _ _ _ _ _ _ _ => rfl) 0 f (by decide)) ?_
        rw [jx_st_same]
        exact hf)
      (fun k hk ih => by
        intro f hf
        refine rule (Nat.beq 41) 40 41 _ _ _ ?_
        refine pk_le 324 k (fun q => absurd q (by omega)) (fun _ => ?_)
        have ev : h 22 0 (324 * p + k) = nI (DD p (k % 18) (k / 18)).toNat := by
          have := hD p (by omega) (k % 18) (k / 18) (by omega) (by omega)
          rwa [show 324 * p + 18 * (k / 18) + k % 18 = 324 * p + k by omega] at this
        refine Exists.intro (324 * p + k) (And.intro (And.intro (by omega) (by rw [pk_mul, nI_add])) ?_)
        refine Exists.intro k (And.intro (And.intro hk (And.intro rfl ?_)) ?_)
        · show h 22 0 (324 * p + k) = nI 0 ∨ h 22 0 (324 * p + k) = nI 1
          rw [ev]
          exact b01 _
        · refine jv_to (V := V) (ih (upd f k (h 22 0 (324 * p + k))) (fun j hj => ?_)) (by rw [nI_add]) rfl (by rw [jx_st_same, jx_st_st]; rfl)
          by_cases hjk : j = k
          · subst hjk; rw [upd_same]; exact ev
          · rw [upd_ne _ _ hjk]; exact hf j (by omega))
    have z := e9
    rw [hp9, hp9, Bool.and_eq_true, Bool.and_eq_true, Bool.and_eq_true, decide_eq_true_eq, decide_eq_true_eq, decide_eq_true_eq, decide_eq_true_eq] at z
    refine rule (Nat.beq 41) 60 0 _ _ _ ?_
    refine br_c (fun q1 => absurd q1 z.1.1) (fun q1 => ?_)
    refine br_c (fun q2 => absurd (show nI p < h 20 0 3 by rw [hP]; exact z.1.2) (Int32.not_lt.mpr q2)) (fun q2 => ?_)
    refine br_c (fun q3 => absurd q3 z.2.1) (fun q3 => ?_)
    refine br_c (fun q4 => ?_) (fun q4 => absurd (e3.mpr z.2.2) q4)
    refine pk_eq 0 0 (fun _ => ?_) (fun w => absurd rfl w)
    exact jv_to (V := V) (copy 0 (Nat.zero_le _) (h 24 0) (fun j hj => absurd hj (Nat.not_lt_zero _))) rfl rfl (jx_st_id (thr h 0) 24 0).symm
