/-! The reference: frame errors, rows read, keeping. -/
theorem fe1_le (D : Nat → Nat → Bool) (k : Nat) : fe1 D k ≤ 1 := by
  unfold fe1
  split
  · exact ff_le _ _ _
  · omega
theorem S_M_frameErrors {D : Nat → Nat → Bool} {h : jxH} (hD : SN (h 24 0) D) : jx_MW 69 [jR 20 0] h (fun r h' => r = nI (fts D 17) ∧ h' = h) := by
  refine jx_MW_by [some (jR 20 0), none, none, none, none, none] (by decide) rfl (Nat.le_of_ble_eq_true rfl) (fun V rule => ?_)
  have loop := jl_up (P := fun k => ∀ o3 o4 o5 : Option jxV, V 4 [some (jR 20 0), some (jI (nI (sm (fe1 D) 0 k))), some (jI (nI k)), o3, o4, o5] [] h) 324
    (by
      intro o3 o4 o5
      refine rule (fun _ => false) 10 4 _ _ _ ?_
      refine pk_le 324 324 (fun _ => ?_) (fun q => absurd q (Nat.lt_irrefl _))
      exact And.intro (by rw [fe1_fts]) rfl)
    (fun k hk ih => by
      intro o3 o4 o5
      have nxt : ∀ v, v = fe1 D k → V 4 [some (jR 20 0), some (jI (nI (sm (fe1 D) 0 k) + nI v)), some (jI (nI k + nI 1)), some (jI (nI (k % 18))), some (jI (nI (k / 18))), some (jI (nI (edge (k % 18) (k / 18)).toNat))] [] h := by
        intro v hv
        refine jv_to (V := V) (ih (some (jI (nI (k % 18)))) (some (jI (nI (k / 18)))) (some (jI (nI (edge (k % 18) (k / 18)).toNat)))) ?_ rfl rfl
        rw [nI_add, nI_add, hv]
        show _ = [some (jR 20 0), some (jI (nI (sm (fe1 D) 0 k + fe1 D (0 + k)))), _, _, _, _]
        rw [Nat.zero_add]
      have mid : V 51 [some (jR 20 0), some (jI (nI (sm (fe1 D) 0 k))), some (jI (nI k)), some (jI (nI (k % 18))), some (jI (nI (k / 18))), some (jI (nI (edge (k % 18) (k / 18)).toNat))] [] h := by
        refine rule (Nat.beq 4) 40 51 _ _ _ ?_
        refine pk_eq (edge (k % 18) (k / 18)).toNat 0 (fun q => ?_) (fun q => ?_) rfl rfl (by have := toNat_le (edge (k % 18) (k / 18)); omega) (by decide)
        · exact nxt 0 (by rw [fe1, tn0 q]; rfl)
        · refine Exists.intro k (And.intro (And.intro hk rfl) ?_)
          refine jx_cal (S_M_frame (x := k % 18) (y := k / 18) (by omega) (by omega)) rfl (fun r h' hq => ?_)
          obtain ⟨rfl, rfl⟩ := hq
          refine pk_eq (D (k % 18) (k / 18)).toNat (fr (k % 18) (k / 18)).toNat (fun z => ?_) (fun z => ?_) (hD k hk) rfl (by have := toNat_le (D (k % 18) (k / 18)); omega) (by have := toNat_le (fr (k % 18) (k / 18)); omega)
          · exact nxt 0 (by rw [fe1, if_pos (tn1 q), ff, if_pos (toNat_inj.mp z)])
          · exact nxt 1 (by rw [fe1, if_pos (tn1 q), ff, if_neg (fun w => z (toNat_inj.mpr w))])
      refine rule (fun n => Nat.beq 51 n) 40 4 _ _ _ ?_
      refine pk_le 324 k (fun q => absurd q (by omega)) (fun _ => ?_)
      refine And.intro (by decide) ?_
      refine And.intro (by decide) ?_
      have er : nI k - nI k / nI 18 * nI 18 = nI (k % 18) := jn_rem (by omega) (by decide) (by decide)
      have ed : nI k / nI 18 = nI (k / 18) := pk_div (by omega) (by decide) (by decide)
      have leaf : ∀ v, v = (edge (k % 18) (k / 18)).toNat → V 51 [some (jR 20 0), some (jI (nI (sm (fe1 D) 0 k))), some (jI (nI k)), some (jI (nI k - nI k / nI 18 * nI 18)), some (jI (nI k / nI 18)), some (jI (nI v))] [] h := fun v hv => jv_to (V := V) mid (by rw [er, ed, hv]) rfl rfl
      refine pk_eq (k % 18) 0 (fun q1 => ?_) (fun q1 => ?_) er rfl
      · exact leaf 1 (by simp [edge, q1])
      refine pk_eq (k / 18) 0 (fun q2 => ?_) (fun q2 => ?_) ed rfl
      · exact leaf 1 (by rw [edge, decide_eq_true q2]; simp)
      refine pk_eq (k % 18) 17 (fun q3 => ?_) (fun q3 => ?_) er rfl
      · exact leaf 1 (by simp [edge, q3])
      refine pk_eq (k / 18) 17 (fun q4 => ?_) (fun q4 => ?_) ed rfl
      · exact leaf 1 (by rw [edge, decide_eq_true q4]; simp)
      · exact leaf 0 (by rw [edge, decide_eq_false q1, decide_eq_false q2, decide_eq_false q3, decide_eq_false q4]; rfl))
  refine rule (Nat.beq 4) 10 0 _ _ _ ?_
  exact loop 0 (Nat.zero_le _) none none none
abbrev hM4 (h : jxH) (a b e d : Nat → Int32) : jxH := jx_st (jx_st (jx_st (jx_st h 26 0 a) 27 0 b) 29 0 e) 28 0 d
theorem hM4_26 (h : jxH) (a b e d f : Nat → Int32) : jx_st (hM4 h a b e d) 26 0 f = hM4 h f b e d := by
  unfold hM4
  rw [jx_sc (show 28 ≠ 26 by decide), jx_sc (show 29 ≠ 26 by decide), jx_sc (show 27 ≠ 26 by decide), jx_st_st]
theorem hM4_27 (h : jxH) (a b e d f : Nat → Int32) : jx_st (hM4 h a b e d) 27 0 f = hM4 h a f e d := by
  unfold hM4
  rw [jx_sc (show 28 ≠ 27 by decide), jx_sc (show 29 ≠ 27 by decide), jx_st_st]
theorem hM4_29 (h : jxH) (a b e d f : Nat → Int32) : jx_st (hM4 h a b e d) 29 0 f = hM4 h a b f d := by
  unfold hM4
  rw [jx_sc (show 28 ≠ 29 by decide), jx_st_st]
theorem hM4_28 (h : jxH) (a b e d f : Nat → Int32) : jx_st (hM4 h a b e d) 28 0 f = hM4 h a b e f := by
  unfold hM4
  rw [jx_st_st]
theorem hM4_id (h : jxH) : hM4 h (h 26 0) (h 27 0) (h 29 0) (h 28 0) = h := by
  unfold hM4
  rw [jx_st_id, jx_st_id, jx_st_id, jx_st_id]
theorem sv_4 (g : Nat → Bool) : sv g 4 = (((if g 0 = true then 2 ^ 0 else 0) ||| (if g 1 = true then 2 ^ 1 else 0)) ||| (if g 2 = true then 2 ^ 2 else 0)) ||| (if g 3 = true then 2 ^ 3 else 0) := by
  unfold sv sv sv sv sv
  cases g 0 <;> cases g 1 <;> cases g 2 <;> cases g 3 <;> rfl
theorem cor_neg (s : Nat → Nat) : (cor s).1 < 0 ↔ (cor s).1 = -nI 1 := by
  unfold cor
  split
  · show nI 0 < 0 ↔ nI 0 = -nI 1
    decide
  · split
    · show nI 1 < 0 ↔ nI 1 = -nI 1
      decide
    · split
      · show nI 2 < 0 ↔ nI 2 = -nI 1
        decide
      · show -nI 1 < 0 ↔ -nI 1 = -nI 1
        decide
theorem S_M_readRows {t : Nat} {D : Nat → Nat → Bool} {h : jxH} (hw : AR (h 23 0) 15 16 gf_pw) (hD : SN (h 24 0) (tu t D)) : jx_MW 106 [jR 20 0] h (fun r h' => r = nI (alw D t 4).toNat ∧ ∃ a b e d, h' = hM4 h a b e d ∧ (∀ r, r < 4 → e r = (cor (rw9 D t r)).1) ∧ AR d 44 16 (rdd D t)) := by
  refine jx_MW_by [some (jR 20 0), none, none, none, none, none] (by decide) rfl (Nat.le_of_ble_eq_true rfl) (fun V rule => ?_)
  have loop := jl_up (P := fun n => ∀ (o3 o4 o5 : Option jxV) (a b e d : Nat → Int32), (∀ r, r < n → e r = (cor (rw9 D t r)).1) → (∀ k, k < 11 * n → d k = nI (rdd D t k) ∧ rdd D t k < 16) → V 4 [some (jR 20 0), some (jI (nI (alw D t n).toNat)), some (jI (nI n)), o3, o4, o5] [] (hM4 h a b e d)) 4
    (by
      intro o3 o4 o5 a b e d he hd
      refine rule (fun _ => false) 10 4 _ _ _ ?_
      refine pk_le 4 4 (fun _ => ?_) (fun q => absurd q (Nat.lt_irrefl _))
      exact And.intro (b01 _) (And.intro rfl (Exists.intro a (Exists.intro b (Exists.intro e (Exists.intro d (And.intro rfl (And.intro he (fun k hk => hd k hk)))))))))
    (fun n hn ih => by
      intro o3 o4 o5 a b e d he hd
      have give := fun (o4 o5 : Option jxV) (a b e : Nat → Int32) (he : ∀ r, r < n + 1 → e r = (cor (rw9 D t r)).1) (ha : AR a 15 16 (cor (rw9 D t n)).2) => jl_up (P := fun i => 4 ≤ i → ∀ d : Nat → Int32, (∀ k, k < 11 * n + (i - 4) → d k = nI (rdd D t k) ∧ rdd D t k < 16) → V 130 [some (jR 20 0), some (jI (nI (alw D t (n + 1)).toNat)), some (jI (nI n)), some (jI (nI i)), o4, o5] [] (hM4 h a b e d)) 15
        (by
          intro _ d hd
          refine rule (Nat.beq 4) 20 130 _ _ _ ?_
          refine pk_le 15 15 (fun _ => ?_) (fun q => absurd q (Nat.lt_irrefl _))
          exact jv_to (V := V) (ih (some (jI (nI 15))) o4 o5 a b e d he (fun k hk => hd k (by omega))) (by rw [nI_add]) rfl rfl)
        (fun i hi ih2 => by
          intro hi4 d hd
          refine rule (Nat.beq 130) 30 130 _ _ _ ?_
          refine pk_le 15 i (fun q => absurd q (by omega)) (fun _ => ?_)
          refine Exists.intro i (And.intro (And.intro hi rfl) ?_)
          have ei : nI 11 * nI n + nI i - nI 4 = nI (11 * n + (i - 4)) := by
            rw [pk_mul, nI_add, show nI (11 * n + i) - nI 4 = nI (11 * n + i - 4) from pk_sub (show 4 ≤ 11 * n + i by omega), show 11 * n + i - 4 = 11 * n + (i - 4) by omega]
          refine Exists.intro (11 * n + (i - 4)) (And.intro (And.intro (by omega) ei) ?_)
          have ev : hM4 h a b e d 26 0 i = nI ((cor (rw9 D t n)).2 i) := ha.at hi
          refine jv_to (V := V) (ih2 (by omega) (upd d (11 * n + (i - 4)) (nI ((cor (rw9 D t n)).2 i))) (fun k hk => ?_)) (by rw [nI_add]) rfl (by rw [ev, hM4_28, show hM4 h a b e d 28 0 = d from jx_st_same _ _ _ _])
          by_cases hki : k = 11 * n + (i - 4)
          · subst hki
            rw [upd_same, rdd, show (11 * n + (i - 4)) / 11 = n by omega, show 4 + (11 * n + (i - 4)) % 11 = i by omega]
            exact ⟨rfl, ha.lt hi⟩
          · rw [upd_ne _ _ hki]
            exact hd k (by omega))
      have fill := jl_up (P := fun i => ∀ (o4 o5 : Option jxV) (a : Nat → Int32), (∀ k, k < i → a k = nI (rw9 D t n k)) → V 11 [some (jR 20 0), some (jI (nI (alw D t n).toNat)), some (jI (nI n)), some (jI (nI i)), o4, o5] [] (hM4 h a b e d)) 15
        (by
          intro o4 o5 a ha
          refine rule (Nat.beq 130) 60 11 _ _ _ ?_
          refine pk_le 15 15 (fun _ => ?_) (fun q => absurd q (Nat.lt_irrefl _))
          have ha' : AR (hM4 h a b e d 26 0) 15 16 (rw9 D t n) := fun k hk => ⟨ha k hk, rdS_lt _ _⟩
          have hw' : AR (hM4 h a b e d 23 0) 15 16 gf_pw := hw
          refine jx_cal (S_M_correct hw' ha') rfl (fun q h2 hq => ?_)
          obtain ⟨rfl, a2, b2, rfl, ga2⟩ := hq
          rw [hM4_27, hM4_26]
          refine Exists.intro n (And.intro (And.intro hn rfl) ?_)
          rw [hM4_29]
          have he2 : ∀ r, r < n + 1 → upd e n (cor (rw9 D t n)).1 r = (cor (rw9 D t r)).1 := fun r hr => by
            by_cases hrn : r = n
            · subst hrn; exact upd_same _ _ _
            · rw [upd_ne _ _ hrn]; exact he r (by omega)
          have ev : hM4 h a2 b2 (upd e n (cor (rw9 D t n)).1) d 29 0 n = (cor (rw9 D t n)).1 := upd_same _ _ _
          have leaf := fun (c : Bool) (hc : alw D t (n + 1) = c) => jv_to (V := V) (give o4 o5 a2 b2 (upd e n (cor (rw9 D t n)).1) he2 ga2 4 (by decide) (Nat.le_refl _) d (fun k hk => hd k (by omega))) (show [some (jR 20 0), some (jI (nI c.toNat)), some (jI (nI n)), some (jI (nI 4)), o4, o5] = _ by rw [hc]) rfl rfl
          refine pk_eq (alw D t n).toNat 0 (fun q => ?_) (fun q => ?_) rfl rfl (by have := toNat_le (alw D t n); omega) (by decide)
          · exact leaf false (by rw [alw, tn0 q]; rfl)
          · refine Exists.intro n (And.intro (And.intro hn rfl) ?_)
            refine br_c (fun q1 => ?_) (fun q1 => ?_)
            · have q2 : (cor (rw9 D t n)).1 = -nI 1 := (cor_neg _).mp (ev ▸ q1)
              exact leaf false (by rw [alw, tn1 q, q2]; decide)
            · have q2 : ¬ (cor (rw9 D t n)).1 = -nI 1 := fun z => q1 (ev.symm ▸ (cor_neg _).mpr z)
              exact leaf true (by rw [alw, tn1 q]; simp [q2]))
        (fun i hi ih2 => by
          intro o4 o5 a ha
          refine rule (Nat.beq 11) 70 11 _ _ _ ?_
          refine pk_le 15 i (fun q => absurd q (by omega)) (fun _ => ?_)
          have hbx : bX (4 * i + n) ≤ 15 := by unfold bX; omega
          have hby : bY (4 * i + n) ≤ 15 := by unfold bY; omega
          have eb : nI 4 * nI i + nI n = nI (4 * i + n) := by rw [pk_mul, nI_add]
          have ea : nI 18 * (nI 1 + nI 2 * ((nI 4 * nI i + nI n) / nI 8)) + nI 1 + nI 2 * (nI 4 * nI i + nI n - (nI 4 * nI i + nI n) / nI 8 * nI 8) = nI (18 * bY (4 * i + n) + bX (4 * i + n)) := by
            rw [eb, jn_rem (by omega) (by decide) (by decide), pk_div (by omega) (by decide) (by decide), pk_mul, pk_mul, nI_add, pk_mul, nI_add, nI_add]
            congr 1
            unfold bX bY
            omega
          refine And.intro (by decide) ?_
          refine And.intro (by decide) ?_
          have hb9 : ∀ aa dd, BA (hM4 h aa b e dd 24 0) 324 (fun k => tu t D (k % 18) (k / 18)) := fun _ _ => hD
          refine jx_cal (S_M_bit (a := 18 * bY (4 * i + n) + bX (4 * i + n)) (k := 0) (hb9 a d) (by omega) (by decide)) (congrArg (fun z => [jR 20 0, jI z, jI (nI 0)]) ea) (fun q h2 hq => ?_)
          obtain ⟨rfl, rfl⟩ := hq
          refine jx_cal (S_M_bit (a := 18 * bY (4 * i + n) + bX (4 * i + n) + 1) (k := 1) (hb9 a d) (by omega) (by decide)) (by rw [ea, nI_add]) (fun q h2 hq => ?_)
          obtain ⟨rfl, rfl⟩ := hq
          refine jx_cal (S_M_bit (a := 18 * bY (4 * i + n) + bX (4 * i + n) + 18) (k := 2) (hb9 a d) (by omega) (by decide)) (by rw [ea, nI_add]) (fun q h2 hq => ?_)
          obtain ⟨rfl, rfl⟩ := hq
          refine jx_cal (S_M_bit (a := 18 * bY (4 * i + n) + bX (4 * i + n) + 19) (k := 3) (hb9 a d) (by omega) (by decide)) (by rw [ea, nI_add]) (fun q h2 hq => ?_)
          obtain ⟨rfl, rfl⟩ := hq
          refine Exists.intro i (And.intro (And.intro hi rfl) ?_)
          generalize hY : bY (4 * i + n) = Y at *
          generalize hX : bX (4 * i + n) = X at *
          have es : rw9 D t n i = (((if tu t D ((18 * Y + X) % 18) ((18 * Y + X) / 18) = true then 2 ^ 0 else 0) ||| (if tu t D ((18 * Y + X + 1) % 18) ((18 * Y + X + 1) / 18) = true then 2 ^ 1 else 0)) ||| (if tu t D ((18 * Y + X + 18) % 18) ((18 * Y + X + 18) / 18) = true then 2 ^ 2 else 0)) ||| (if tu t D ((18 * Y + X + 19) % 18) ((18 * Y + X + 19) / 18) = true then 2 ^ 3 else 0) := by
            rw [rw9, rdS, sv_4, hX, hY, show (18 * Y + X) % 18 = X by omega, show (18 * Y + X) / 18 = Y by omega, show (18 * Y + X + 1) % 18 = X + 1 by omega, show (18 * Y + X + 1) / 18 = Y by omega, show (18 * Y + X + 18) % 18 = X by omega, show (18 * Y + X + 18) / 18 = Y + 1 by omega, show (18 * Y + X + 19) % 18 = X + 1 by omega, show (18 * Y + X + 19) / 18 = Y + 1 by omega]
            rfl
          refine jv_to (V := V) (ih2 _ _ (upd a i (nI (rw9 D t n i))) (fun k hk => ?_)) (by rw [nI_add]) rfl (by rw [hM4_26, jn_or, jn_or, jn_or, es]; rfl)
          by_cases hki : k = i
          · subst hki; exact upd_same _ _ _
          · rw [upd_ne _ _ hki]; exact ha k (by omega))
      refine rule (Nat.beq 11) 20 4 _ _ _ ?_
      refine pk_le 4 n (fun q => absurd q (by omega)) (fun _ => ?_)
      exact fill 0 (Nat.zero_le _) o4 o5 a (fun k hk => absurd hk (Nat.not_lt_zero _)))
  refine rule (Nat.beq 4) 10 0 _ _ _ ?_
  exact jv_to (V := V) (loop 0 (Nat.zero_le _) none none none (h 26 0) (h 27 0) (h 29 0) (h 28 0) (fun r hr => absurd hr (Nat.not_lt_zero _)) (fun k hk => absurd hk (Nat.not_lt_zero _))) rfl rfl (hM4_id h).symm
theorem S_M_keep {kp nd ln : Nat} {d : Nat → Nat} {b : Nat → Bool} {h : jxH} (hk : h 20 0 12 = nI kp) (hn : h 20 0 13 = nI nd) (hl : h 20 0 14 = nI ln) (hb : BA (h 30 0) 6 b) (hd : AR (h 28 0) 44 16 d) (hk9 : kp < 100) (hn9 : nd < 1000) (hl9 : ln < 1000) : jx_MW 29 [jR 20 0] h (fun r h' =>
    (tp d = false ∧ r = -nI 1 ∧ h' = h) ∨ (tp d = true ∧
      ((¬ kp = 0 ∧ ¬ (d 1 = nd ∧ d 2 + 16 * d 3 = ln) ∧ r = -nI 2 ∧ h' = h) ∨
       ((kp = 0 ∨ (d 1 = nd ∧ d 2 + 16 * d 3 = ln)) ∧ r = nI (d 0) ∧ (b (d 0) = true → h' = h) ∧
        (b (d 0) = false → ∃ f, h' = jx_st (jx_st (jx_st h 30 0 (upd (h 30 0) (d 0) (nI 1))) 20 0 (upd (upd (upd (h 20 0) 12 (nI (kp + 1))) 13 (nI (d 1))) 14 (nI (d 2 + 16 * d 3)))) 31 0 f ∧ ∀ k, f k = if 40 * d 0 ≤ k ∧ k < 40 * d 0 + 40 then nI (d (4 + (k - 40 * d 0))) else h 31 0 k))))) := by
  refine jx_MW_by [some (jR 20 0), none, none, none, none] (by decide) rfl (Nat.le_of_ble_eq_true rfl) (fun V rule => ?_)
  have d0 := hd.lt (show 0 < 44 by decide)
  have d1 := hd.lt (show 1 < 44 by decide)
  have d2 := hd.lt (show 2 < 44 by decide)
  have d3 := hd.lt (show 3 < 44 by decide)
  have a0 := hd.at (show 0 < 44 by decide)
  have a1 := hd.at (show 1 < 44 by decide)
  have a2 := hd.at (show 2 < 44 by decide)
  have a3 := hd.at (show 3 < 44 by decide)
  have esz : h 28 0 2 + nI 16 * h 28 0 3 = nI (d 2 + 16 * d 3) := by rw [a2, a3, pk_mul, nI_add]
  have store : tp d = true → (kp = 0 ∨ (d 1 = nd ∧ d 2 + 16 * d 3 = ln)) → V 95 [some (jR 20 0), some (jI (nI (d 0))), some (jI (nI (d 1))), some (jI (nI (d 2 + 16 * d 3))), none] [] h := by
    intro ht hm
    have ht2 := ht
    simp only [tp, Bool.and_eq_true, decide_eq_true_eq] at ht2
    cases hbd : b (d 0) with
    | true =>
      refine rule (fun _ => false) 20 95 _ _ _ ?_
      refine Exists.intro (d 0) (And.intro (And.intro (by omega) rfl) ?_)
      refine pk_eq 1 0 (fun z => absurd z (by decide)) (fun _ => ?_) (by rw [hb (d 0) (by omega), hbd]; rfl) rfl
      exact Or.inr (And.intro ht (Or.inr (And.intro hm (And.intro rfl (And.intro (fun _ => rfl) (fun z => absurd (hbd.symm.trans z) (by decide)))))))
    | false =>
      have loop := jl_up (P := fun m => ∀ f : Nat → Int32, (∀ k, f k = if 40 * d 0 ≤ k ∧ k < 40 * d 0 + m then nI (d (4 + (k - 40 * d 0))) else h 31 0 k) → V 134 [some (jR 20 0), some (jI (nI (d 0))), some (jI (nI (d 1))), some (jI (nI (d 2 + 16 * d 3))), some (jI (nI m))] [] (jx_st (jx_st (jx_st h 30 0 (upd (h 30 0) (d 0) (nI 1))) 20 0 (upd (upd (upd (h 20 0) 12 (nI (kp + 1))) 13 (nI (d 1))) 14 (nI (d 2 + 16 * d 3)))) 31 0 f)) 40
        (by
          intro f hf
          refine rule (fun _ => false) 20 134 _ _ _ ?_
          refine pk_le 40 40 (fun _ => ?_) (fun q => absurd q (Nat.lt_irrefl _))
          exact Or.inr (And.intro ht (Or.inr (And.intro hm (And.intro rfl (And.intro (fun z => absurd (hbd.symm.trans z) (by decide)) (fun _ => Exists.intro f (And.intro rfl hf))))))))
        (fun m hm9 ih => by
          intro f hf
          refine rule (Nat.beq 134) 40 134 _ _ _ ?_
          refine pk_le 40 m (fun q => absurd q (by omega)) (fun _ => ?_)
          refine Exists.intro (4 + m) (And.intro (And.intro (by omega) (nI_add 4 m)) ?_)
          refine Exists.intro (40 * d 0 + m) (And.intro (And.intro (by omega) (by rw [pk_mul, nI_add])) ?_)
          refine jv_to (V := V) (ih (upd f (40 * d 0 + m) (nI (d (4 + m)))) (fun k => ?_)) (by rw [nI_add]) rfl ?_
          · by_cases hk9 : k = 40 * d 0 + m
            · subst hk9
              rw [upd_same, if_pos (by omega), show 40 * d 0 + m - 40 * d 0 = m by omega]
            · rw [upd_ne _ _ hk9, hf k]
              exact if_iff ⟨fun z => by omega, fun z => by omega⟩
          · rw [jx_st_same, jx_st_st]
            show jx_st _ 31 0 (upd f (40 * d 0 + m) (h 28 0 (4 + m))) = _
            rw [hd.at (show 4 + m < 44 by omega)])
      refine rule (Nat.beq 134) 60 95 _ _ _ ?_
      refine Exists.intro (d 0) (And.intro (And.intro (by omega) rfl) ?_)
      refine pk_eq 0 0 (fun _ => ?_) (fun z => absurd rfl z) (by rw [hb (d 0) (by omega), hbd]; rfl) rfl
      refine Exists.intro (d 0) (And.intro (And.intro (by omega) (And.intro rfl (Or.inr rfl))) ?_)
      refine jv_to (V := V) (loop 0 (Nat.zero_le _) (h 31 0) (fun k => by rw [if_neg (by omega)])) rfl rfl ?_
      rw [jx_st_same, jx_st_st, jx_st_same, jx_st_st]
      show jx_st (jx_st h 30 0 (upd (h 30 0) (d 0) (nI 1))) 20 0 (upd (upd (upd (h 20 0) 12 (h 20 0 12 + nI 1)) 13 (nI (d 1))) 14 (nI (d 2 + 16 * d 3))) = _
      rw [hk, nI_add]
      exact (jx_st_id _ 31 0).symm
  refine rule (Nat.beq 95) 100 0 _ _ _ ?_
  refine Exists.intro 0 (And.intro (And.intro (by decide) rfl) ?_)
  refine Exists.intro 1 (And.intro (And.intro (by decide) rfl) ?_)
  refine Exists.intro 2 (And.intro (And.intro (by decide) rfl) ?_)
  refine Exists.intro 3 (And.intro (And.intro (by decide) rfl) ?_)
  refine pk_lt (d 1) 1 (fun q => ?_) (fun q1 => ?_) a1 rfl
  · exact Or.inl (And.intro (by simp [tp, show ¬ 1 ≤ d 1 by omega]) (And.intro rfl rfl))
  refine pk_lt 4 (d 1) (fun q => ?_) (fun q2 => ?_) rfl a1
  · exact Or.inl (And.intro (by simp [tp, show ¬ d 1 ≤ 4 by omega]) (And.intro rfl rfl))
  refine pk_lt (d 1 + 1) (d 0) (fun q => ?_) (fun q3 => ?_) (by rw [a1, nI_add]) a0
  · exact Or.inl (And.intro (by simp [tp, show ¬ d 0 ≤ d 1 + 1 by omega]) (And.intro rfl rfl))
  have em : nI 20 * h 28 0 1 - nI 19 = nI (20 * d 1 - 19) := by rw [a1, pk_mul]; exact pk_sub (by omega)
  refine pk_lt (d 2 + 16 * d 3) (20 * d 1 - 19) (fun q => ?_) (fun q4 => ?_) esz em
  · exact Or.inl (And.intro (by simp [tp, show ¬ 20 * d 1 < d 2 + 16 * d 3 + 20 by omega]) (And.intro rfl rfl))
  refine pk_le (d 2 + 16 * d 3) (20 * d 1) (fun q5 => ?_) (fun q => ?_) esz (by rw [a1, pk_mul])
  · have ht : tp d = true := by simp [tp, q1, q2, q3, q5, show 20 * d 1 < d 2 + 16 * d 3 + 20 by omega]
    have leaf := fun hm => jv_to (V := V) (store ht hm) (show [some (jR 20 0), some (jI (h 28 0 0)), some (jI (h 28 0 1)), some (jI (h 28 0 2 + nI 16 * h 28 0 3)), none] = _ by rw [a0, a1, esz]) rfl rfl
    refine pk_le kp 0 (fun q6 => ?_) (fun q6 => ?_) hk rfl
    · exact leaf (Or.inl (by omega))
    refine pk_eq (d 1) nd (fun q7 => ?_) (fun q7 => ?_) a1 hn
    · refine pk_eq (d 2 + 16 * d 3) ln (fun q8 => ?_) (fun q8 => ?_) esz hl
      · exact leaf (Or.inr ⟨q7, q8⟩)
      · exact Or.inr (And.intro ht (Or.inl (And.intro (by omega) (And.intro (fun z => q8 z.2) (And.intro rfl rfl)))))
    · exact Or.inr (And.intro ht (Or.inl (And.intro (by omega) (And.intro (fun z => q7 z.1) (And.intro rfl rfl)))))
  · exact Or.inl (And.intro (by simp [tp, show ¬ d 2 + 16 * d 3 ≤ 20 * d 1 by omega]) (And.intro rfl rfl))
