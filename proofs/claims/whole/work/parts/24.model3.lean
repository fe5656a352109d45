/-! The reference: check symbols, correction. -/
theorem S_M_check {s : Nat → Nat} {h : jxH} (hs : ∀ k, 4 ≤ k → k < 15 → h 26 0 k = nI (s k)) (h15 : ∀ k, k < 15 → s k < 16) : jx_MW 65 [jR 20 0] h (fun _ h' => ∃ f, h' = jx_st h 26 0 f ∧ AR f 15 16 (cpn s 11)) := by
  refine jx_MW_by [some (jR 20 0), none, none, none, none, none, none] (by decide) rfl (Nat.le_of_ble_eq_true rfl) (fun V rule => ?_)
  have hb := fun n => cq_lt (s := s) h15 n
  have loop2 := jl_up (P := fun n => ∀ (o : Option jxV) (f : Nat → Int32), (∀ k, 4 ≤ k → k < 15 → f k = nI (s k)) → V 33 [some (jR 20 0), some (jI (nI (cq s n).1)), some (jI (nI (cq s n).2.1)), some (jI (nI (cq s n).2.2.1)), some (jI (nI (cq s n).2.2.2)), some (jI (nI (14 - n))), o] [] (jx_st h 26 0 f)) 11
    (by
      intro o f hf
      refine rule (fun _ => false) 60 33 _ _ _ ?_
      refine pk_le 3 3 (fun _ => ?_) (fun q => absurd q (Nat.lt_irrefl _))
      refine Exists.intro 3 (And.intro (And.intro (by decide) rfl) ?_)
      refine Exists.intro 2 (And.intro (And.intro (by decide) rfl) ?_)
      refine Exists.intro 1 (And.intro (And.intro (by decide) rfl) ?_)
      refine Exists.intro 0 (And.intro (And.intro (by decide) rfl) ?_)
      refine Exists.intro (upd (upd (upd (upd f 3 (nI (cq s 11).1)) 2 (nI (cq s 11).2.1)) 1 (nI (cq s 11).2.2.1)) 0 (nI (cq s 11).2.2.2)) (And.intro ?_ ?_)
      · rw [jx_st_same, jx_st_st, jx_st_same, jx_st_st, jx_st_same, jx_st_st, jx_st_same, jx_st_st]
      · intro k hk
        obtain ⟨b1, b2, b3, b4⟩ := hb 11
        unfold cpn
        by_cases k0 : k = 0
        · subst k0; rw [upd_same]; exact ⟨rfl, b4⟩
        rw [upd_ne _ _ k0, if_neg k0]
        by_cases k1 : k = 1
        · subst k1; rw [upd_same]; exact ⟨rfl, b3⟩
        rw [upd_ne _ _ k1, if_neg k1]
        by_cases k2 : k = 2
        · subst k2; rw [upd_same]; exact ⟨rfl, b2⟩
        rw [upd_ne _ _ k2, if_neg k2]
        by_cases k3 : k = 3
        · subst k3; rw [upd_same]; exact ⟨rfl, b1⟩
        rw [upd_ne _ _ k3, if_neg k3]
        exact ⟨hf k (by omega) hk, h15 k hk⟩)
    (fun n hn ih => by
      intro o f hf
      refine rule (Nat.beq 33) 80 33 _ _ _ ?_
      refine pk_le (14 - n) 3 (fun q => absurd q (by omega)) (fun _ => ?_)
      refine Exists.intro (14 - n) (And.intro (And.intro (by omega) rfl) ?_)
      obtain ⟨b1, b2, b3, b4⟩ := hb n
      have hc : s (14 - n) ^^^ (cq s n).1 < 16 := gf_xor_lt (h15 _ (by omega)) b1
      rw [jx_st_same, hf (14 - n) (by omega) (by omega)]
      have v : nI (cq s n).1 ^^^ nI (s (14 - n)) = nI (s (14 - n) ^^^ (cq s n).1) := by
        rw [jn_xor, Nat.xor_comm]
      refine jx_cal (S_M_product (b := 13) hc (by decide)) (congrArg (fun z => [jR 20 0, jI z, jI (nI 13)]) v) (fun q h2 hq => ?_)
      obtain ⟨rfl, rfl⟩ := hq
      refine jx_cal (S_M_product (b := 12) hc (by decide)) (congrArg (fun z => [jR 20 0, jI z, jI (nI 12)]) v) (fun q h2 hq => ?_)
      obtain ⟨rfl, rfl⟩ := hq
      refine jx_cal (S_M_product (b := 8) hc (by decide)) (congrArg (fun z => [jR 20 0, jI z, jI (nI 8)]) v) (fun q h2 hq => ?_)
      obtain ⟨rfl, rfl⟩ := hq
      refine jx_cal (S_M_product (b := 7) hc (by decide)) (congrArg (fun z => [jR 20 0, jI z, jI (nI 7)]) v) (fun q h2 hq => ?_)
      obtain ⟨rfl, rfl⟩ := hq
      refine jv_to (V := V) (ih (some (jI (nI (cq s n).1 ^^^ nI (s (14 - n))))) f hf) ?_ rfl rfl
      rw [jn_xor, jn_xor, jn_xor, jn_xor, jn_dec (by omega), show 14 - n - 1 = 14 - (n + 1) by omega, cq_succ])
  have loop1 := jl_up (P := fun i => ∀ f : Nat → Int32, (∀ k, 4 ≤ k → k < 15 → f k = nI (s k)) → V 2 [some (jR 20 0), some (jI (nI i)), none, none, none, none, none] [] (jx_st h 26 0 f)) 4
    (by
      intro f hf
      refine rule (Nat.beq 33) 30 2 _ _ _ ?_
      refine pk_le 4 4 (fun _ => ?_) (fun q => absurd q (Nat.lt_irrefl _))
      exact loop2 0 (Nat.zero_le _) none f hf)
    (fun i hi ih => by
      intro f hf
      refine rule (Nat.beq 2) 20 2 _ _ _ ?_
      refine pk_le 4 i (fun q => absurd q (by omega)) (fun _ => ?_)
      refine Exists.intro i (And.intro (And.intro (by omega) rfl) ?_)
      refine jv_to (V := V) (ih (upd f i (nI 0)) (fun k h4 hk => ?_)) (by rw [nI_add]) rfl (by rw [jx_st_same, jx_st_st])
      rw [upd_ne _ _ (by omega)]
      exact hf k h4 hk)
  refine rule (Nat.beq 2) 10 0 _ _ _ ?_
  exact jv_to (V := V) (loop1 0 (Nat.zero_le _) (h 26 0) hs) rfl rfl (jx_st_id h 26 0).symm
theorem gf_ml_cm (a b : Nat) : gf_ml a b = gf_ml b a := by
  unfold gf_ml
  by_cases ha : a = 0
  · rw [if_pos ha]
    by_cases hb : b = 0
    · rw [if_pos hb]
    · rw [if_neg hb, if_pos ha]
  · rw [if_neg ha]
    by_cases hb : b = 0
    · rw [if_pos hb, if_pos hb]
    · rw [if_neg hb, if_neg hb, if_neg ha, Nat.add_comm]
theorem gf_qt_pw : ∀ u, u < 16 → ∀ i, i < 15 → ∀ j, j < 4 → gf_ml (gf_qt u (gf_pw i)) (gf_pw ((j + 1) * i)) = gf_ml u (gf_pw (i * j)) := by decide +kernel
theorem gf_ml_1 : ∀ u, u < 16 → ∀ i, i < 15 → gf_ml u (gf_pw (i * 0)) = u := by decide +kernel
theorem gf_qt_2 : ∀ w, w < 16 → ∀ i, i < 15 → ∀ k, k < 15 → gf_qt w (gf_ml (gf_pw k) (gf_pw k ^^^ gf_pw i)) = gf_qt (gf_qt w (gf_pw i ^^^ gf_pw k)) (gf_pw k) := by decide +kernel
theorem gf_dv : ∀ i, i < 15 → ∀ k, k < 15 → i ≠ k → ¬ gf_ml (gf_pw k) (gf_pw k ^^^ gf_pw i) = 0 := by decide +kernel
theorem fta_aso {S : Nat → Nat} {i u k v : Nat} (hi : i < 15) (hk : k < 15) (hu : u < 16) (hv : v < 16) (h0 : S 0 = u ^^^ v) : fta S i (gf_qt u (gf_pw i)) k (gf_qt v (gf_pw k)) 4 = aso S i u k v := by
  have key : ∀ j, j < 4 → ft1 S i (gf_qt u (gf_pw i)) k (gf_qt v (gf_pw k)) j = as1 S i u k v j := by
    intro j hj
    rw [ft1, as1, gf_qt_pw u hu i hi j hj, gf_qt_pw v hv k hk j hj]
    exact decide_eq_decide.mpr eq_comm
  have k0 : as1 S i u k v 0 = true := by
    rw [as1, gf_ml_1 u hu i hi, gf_ml_1 v hv k hk, h0]
    exact decide_eq_true rfl
  show ((((true && ft1 S i (gf_qt u (gf_pw i)) k (gf_qt v (gf_pw k)) 0) && ft1 S i (gf_qt u (gf_pw i)) k (gf_qt v (gf_pw k)) 1) && ft1 S i (gf_qt u (gf_pw i)) k (gf_qt v (gf_pw k)) 2) && ft1 S i (gf_qt u (gf_pw i)) k (gf_qt v (gf_pw k)) 3) = _
  rw [key 0 (by decide), key 1 (by decide), key 2 (by decide), key 3 (by decide), k0, aso]
  cases as1 S i u k v 1 <;> cases as1 S i u k v 2 <;> cases as1 S i u k v 3 <;> rfl
theorem gf_qt_0 (b : Nat) : gf_qt 0 b = 0 := by simp [gf_qt]
theorem gf_pw_0 (e : Nat) : ¬ gf_pw e = 0 := Nat.ne_of_gt (gf_pw_pos e)
theorem xor_3 (a b : Nat) : a = (a ^^^ b) ^^^ b := by rw [Nat.xor_assoc, Nat.xor_self, Nat.xor_zero]
set_option maxHeartbeats 1000000 in
theorem S_M_correct {s : Nat → Nat} {h : jxH} (hw : AR (h 23 0) 15 16 gf_pw) (hs : AR (h 26 0) 15 16 s) : jx_MW 99 [jR 20 0] h (fun r h' => r = (cor s).1 ∧ ∃ f g, h' = jx_st (jx_st h 27 0 g) 26 0 f ∧ AR f 15 16 (cor s).2) := by
  refine jx_MW_by [some (jR 20 0), none, none, none, none] (by decide) rfl (Nat.le_of_ble_eq_true rfl) (fun V rule => ?_)
  by_cases c0 : sy s 0 ||| sy s 1 ||| sy s 2 ||| sy s 3 = 0
  · refine rule (fun _ => false) 20 0 _ _ _ ?_
    refine jx_cal (S_M_isWord hw hs) rfl (fun q h2 hq => ?_)
    obtain ⟨rfl, rfl⟩ := hq
    refine pk_eq 1 0 (fun q => absurd q (by decide)) (fun _ => ?_) (by simp [c0]) rfl
    have e : cor s = (nI 0, s) := by rw [cor, if_pos c0]
    rw [e]
    refine And.intro rfl (Exists.intro (h2 26 0) (Exists.intro (h2 27 0) (And.intro ?_ hs)))
    rw [jx_st_id, jx_st_id]
  have idn : ∀ g : Nat → Int32, jx_st h 27 0 g = jx_st (jx_st h 27 0 g) 26 0 (h 26 0) := fun g => (jx_st_id (jx_st h 27 0 g) 26 0).symm
  have two := fun (g : Nat → Int32) (hg : ∀ j, j < 4 → g (j + 1) = nI (sy s j) ∧ sy s j < 16) (e1 : c1 (sy s) = none) => jl_up (P := fun i => ∀ o2 o3 o4 : Option jxV, (∀ a, a < i → fst (q2 (sy s) a) (a + 1) (14 - a) = none) → V 92 [some (jR 20 0), some (jI (nI i)), o2, o3, o4] [] (jx_st h 27 0 g)) 15
    (by
      intro o2 o3 o4 hn
      refine rule (fun _ => false) 20 92 _ _ _ ?_
      refine pk_le 15 15 (fun _ => ?_) (fun q => absurd q (Nat.lt_irrefl _))
      have e2 : c2 (sy s) = none := fs2_none (fun k _ h2 => hn k (by omega))
      have e : cor s = (-nI 1, s) := by rw [cor, if_neg c0, e1, e2]
      rw [e]
      exact And.intro rfl (Exists.intro _ (Exists.intro g (And.intro (idn g) hs))))
    (fun i hi ih => by
      intro o2 o3 o4 hn
      have inner := jl_up (P := fun k => i + 1 ≤ k → ∀ o3 o4 : Option jxV, (∀ a, i + 1 ≤ a → a < k → q2 (sy s) i a = false) → V 102 [some (jR 20 0), some (jI (nI i)), some (jI (nI k)), o3, o4] [] (jx_st h 27 0 g)) 15
        (by
          intro _ o3 o4 hm
          refine rule (Nat.beq 92) 20 102 _ _ _ ?_
          refine pk_le 15 15 (fun _ => ?_) (fun q => absurd q (Nat.lt_irrefl _))
          refine jv_to (V := V) (ih (some (jI (nI 15))) o3 o4 (fun a ha => ?_)) (by rw [nI_add]) rfl rfl
          by_cases hai : a = i
          · subst hai
            exact fst_none (fun b h1 h2 => hm b h1 (by omega))
          · exact hn a (by omega))
        (fun k hk ih2 => by
          intro hik o3 o4 hm
          refine rule (Nat.beq 102) 100 102 _ _ _ ?_
          have hw' : AR (jx_st h 27 0 g 23 0) 15 16 gf_pw := hw
          have hg' : ∀ j, j < 4 → jx_st h 27 0 g 27 0 (j + 1) = nI (sy s j) ∧ sy s j < 16 := hg
          have g1 := hg' 0 (by decide)
          have g2 := hg' 1 (by decide)
          refine pk_le 15 k (fun q => absurd q (by omega)) (fun _ => ?_)
          refine Exists.intro 2 (And.intro (And.intro (by decide) rfl) ?_)
          refine Exists.intro 1 (And.intro (And.intro (by decide) rfl) ?_)
          refine jx_cal (S_M_of hw' (e := i) (by omega)) rfl (fun q h2 hq => ?_)
          obtain ⟨rfl, rfl⟩ := hq
          refine jx_cal (S_M_product g1.2 (gf_pw_lt i)) (by rw [show jx_st h 27 0 g 27 0 1 = nI (sy s 0) from g1.1]) (fun q h2 hq => ?_)
          obtain ⟨rfl, rfl⟩ := hq
          refine jx_cal (S_M_of hw' (e := k) (by omega)) rfl (fun q h2 hq => ?_)
          obtain ⟨rfl, rfl⟩ := hq
          refine jx_cal (S_M_of hw' (e := k) (by omega)) rfl (fun q h2 hq => ?_)
          obtain ⟨rfl, rfl⟩ := hq
          refine jx_cal (S_M_of hw' (e := i) (by omega)) rfl (fun q h2 hq => ?_)
          obtain ⟨rfl, rfl⟩ := hq
          refine jx_cal (S_M_product (gf_pw_lt k) (gf_xor_lt (gf_pw_lt k) (gf_pw_lt i))) (by rw [jn_xor]) (fun q h2 hq => ?_)
          obtain ⟨rfl, rfl⟩ := hq
          have w16 : sy s 1 ^^^ gf_ml (sy s 0) (gf_pw i) < 16 := gf_xor_lt g2.2 (gf_ml_lt _ _)
          refine jx_cal (S_M_quotient w16 (gf_ml_lt _ _) (gf_dv i hi k hk (by omega))) (by rw [show jx_st h 27 0 g 27 0 2 = nI (sy s 1) from g2.1, jn_xor]) (fun q h2 hq => ?_)
          obtain ⟨rfl, rfl⟩ := hq
          have v16 : vv (sy s) i k < 16 := gf_qt_lt _ _
          have ef : gf_qt (sy s 1 ^^^ gf_ml (sy s 0) (gf_pw i)) (gf_ml (gf_pw k) (gf_pw k ^^^ gf_pw i)) = gf_qt (vv (sy s) i k) (gf_pw k) := by
            rw [gf_qt_2 _ w16 i hi k hk, vv, gf_s2, gf_ml_cm (gf_pw i)]
          rw [ef]
          refine Exists.intro 1 (And.intro (And.intro (by decide) rfl) ?_)
          refine jx_cal (S_M_of hw' (e := k) (by omega)) rfl (fun q h2 hq => ?_)
          obtain ⟨rfl, rfl⟩ := hq
          refine jx_cal (S_M_product (gf_qt_lt (vv (sy s) i k) (gf_pw k)) (gf_pw_lt k)) rfl (fun q h2 hq => ?_)
          obtain ⟨rfl, rfl⟩ := hq
          refine jx_cal (S_M_of hw' (e := i) (by omega)) rfl (fun q h2 hq => ?_)
          obtain ⟨rfl, rfl⟩ := hq
          have u16 : sy s 0 ^^^ vv (sy s) i k < 16 := gf_xor_lt g1.2 v16
          refine jx_cal (S_M_quotient u16 (gf_pw_lt i) (gf_pw_0 i)) (by rw [show jx_st h 27 0 g 27 0 1 = nI (sy s 0) from g1.1, gf_qt_ml _ v16 _ (gf_pw_lt k) (gf_pw_0 k), jn_xor]) (fun q h2 hq => ?_)
          obtain ⟨rfl, rfl⟩ := hq
          refine jx_cal (S_M_fits hw' hg' hi (gf_qt_lt _ _) hk (gf_qt_lt _ _)) rfl (fun q h2 hq => ?_)
          obtain ⟨rfl, rfl⟩ := hq
          have eq2 : fta (sy s) i (gf_qt (sy s 0 ^^^ vv (sy s) i k) (gf_pw i)) k (gf_qt (vv (sy s) i k) (gf_pw k)) 4 = q2 (sy s) i k := fta_aso hi hk u16 v16 (xor_3 _ _)
          rw [eq2]
          refine pk_eq (q2 (sy s) i k).toNat 0 (fun q => ?_) (fun q => ?_) rfl rfl (by have := toNat_le (q2 (sy s) i k); omega) (by decide)
          · refine jv_to (V := V) (ih2 (by omega) _ _ (fun a h1 h2 => ?_)) (by rw [nI_add]) rfl rfl
            by_cases hak : a = k
            · subst hak; exact tn0 q
            · exact hm a h1 (by omega)
          · have e0 := tn1 q
            refine Exists.intro i (And.intro (And.intro hi rfl) ?_)
            refine Exists.intro i (And.intro (And.intro hi rfl) ?_)
            refine Exists.intro k (And.intro (And.intro hk rfl) ?_)
            refine Exists.intro k (And.intro (And.intro hk rfl) ?_)
            have ef : fst (q2 (sy s) i) (i + 1) (14 - i) = some k := fst_some hik (by omega) (fun a h1 h2 => hm a h1 h2) e0
            have e2 : c2 (sy s) = some (i, k) := fs2_some (Nat.zero_le _) (by omega) (fun a _ ha => hn a ha) ef
            have e : cor s = (nI 2, m2 (sy s) s i k) := by rw [cor, if_neg c0, e1, e2]
            rw [e]
            refine And.intro rfl (Exists.intro (upd (upd (h 26 0) i (nI (s i ^^^ gf_qt (sy s 0 ^^^ vv (sy s) i k) (gf_pw i)))) k (nI (s k ^^^ gf_qt (vv (sy s) i k) (gf_pw k)))) (Exists.intro g (And.intro ?_ ?_)))
            · rw [jx_st_same, jx_st_st, show jx_st h 27 0 g 26 0 = h 26 0 from rfl, upd_ne _ _ (show k ≠ i by omega), hs.at hi, hs.at hk, jn_xor, jn_xor]
            · have := (hs.put (k := i) (gf_xor_lt (hs.lt hi) (gf_qt_lt (sy s 0 ^^^ vv (sy s) i k) (gf_pw i)))).put (k := k) (gf_xor_lt (hs.lt hk) (gf_qt_lt (vv (sy s) i k) (gf_pw k)))
              exact this)
      refine rule (Nat.beq 102) 20 92 _ _ _ ?_
      refine pk_le 15 i (fun q => absurd q (by omega)) (fun _ => ?_)
      exact jv_to (V := V) (inner (i + 1) (by omega) (Nat.le_refl _) o3 o4 (fun a h1 h2 => by omega)) (by rw [nI_add]) rfl rfl)
  have one := fun (g : Nat → Int32) (hg : ∀ j, j < 4 → g (j + 1) = nI (sy s j) ∧ sy s j < 16) => jl_up (P := fun i => ∀ o2 : Option jxV, (∀ k, k < i → aso (sy s) k (sy s 0) k 0 = false) → V 35 [some (jR 20 0), some (jI (nI i)), o2, none, none] [] (jx_st h 27 0 g)) 15
    (by
      intro o2 hn
      refine rule (Nat.beq 92) 20 35 _ _ _ ?_
      refine pk_le 15 15 (fun _ => ?_) (fun q => absurd q (Nat.lt_irrefl _))
      have e1 : c1 (sy s) = none := fst_none (fun k _ h2 => hn k (by omega))
      exact two g hg e1 0 (Nat.zero_le _) o2 none none (fun a ha => absurd ha (Nat.not_lt_zero _)))
    (fun i hi ih => by
      intro o2 hn
      refine rule (Nat.beq 35) 60 35 _ _ _ ?_
      have hw' : AR (jx_st h 27 0 g 23 0) 15 16 gf_pw := hw
      have hg' : ∀ j, j < 4 → jx_st h 27 0 g 27 0 (j + 1) = nI (sy s j) ∧ sy s j < 16 := hg
      have g1 := hg' 0 (by decide)
      refine pk_le 15 i (fun q => absurd q (by omega)) (fun _ => ?_)
      refine Exists.intro 1 (And.intro (And.intro (by decide) rfl) ?_)
      refine jx_cal (S_M_of hw' (e := i) (by omega)) rfl (fun q h2 hq => ?_)
      obtain ⟨rfl, rfl⟩ := hq
      refine jx_cal (S_M_quotient g1.2 (gf_pw_lt i) (gf_pw_0 i)) (by rw [show jx_st h 27 0 g 27 0 1 = nI (sy s 0) from g1.1]) (fun q h2 hq => ?_)
      obtain ⟨rfl, rfl⟩ := hq
      refine jx_cal (S_M_fits (f := 0) hw' hg' hi (gf_qt_lt _ _) hi (by decide)) rfl (fun q h2 hq => ?_)
      obtain ⟨rfl, rfl⟩ := hq
      have eq2 : fta (sy s) i (gf_qt (sy s 0) (gf_pw i)) i 0 4 = aso (sy s) i (sy s 0) i 0 := by
        have := fta_aso (S := sy s) (v := 0) hi hi g1.2 (by decide) (Nat.xor_zero _).symm
        rwa [gf_qt_0] at this
      rw [eq2]
      refine pk_eq (aso (sy s) i (sy s 0) i 0).toNat 0 (fun q => ?_) (fun q => ?_) rfl rfl (by have := toNat_le (aso (sy s) i (sy s 0) i 0); omega) (by decide)
      · refine jv_to (V := V) (ih _ (fun k hk => ?_)) (by rw [nI_add]) rfl rfl
        by_cases hki : k = i
        · subst hki; exact tn0 q
        · exact hn k (by omega)
      · have e0 := tn1 q
        refine Exists.intro i (And.intro (And.intro hi rfl) ?_)
        refine Exists.intro i (And.intro (And.intro hi rfl) ?_)
        have e1 : c1 (sy s) = some i := fst_some (Nat.zero_le _) (by omega) (fun k _ hk => hn k hk) e0
        have e : cor s = (nI 1, nup s i (s i ^^^ gf_qt (sy s 0) (gf_pw i))) := by rw [cor, if_neg c0, e1]
        rw [e]
        refine And.intro rfl (Exists.intro (upd (h 26 0) i (nI (s i ^^^ gf_qt (sy s 0) (gf_pw i)))) (Exists.intro g (And.intro ?_ (hs.put (gf_xor_lt (hs.lt hi) (gf_qt_lt _ _))))))
        rw [show jx_st h 27 0 g 26 0 = h 26 0 from rfl, hs.at hi, jn_xor])
  have sums := jl_up (P := fun j => ∀ g : Nat → Int32, (∀ k, k < j → g (k + 1) = nI (sy s k) ∧ sy s k < 16) → V 11 [some (jR 20 0), some (jI (nI (j + 1))), none, none, none] [] (jx_st h 27 0 g)) 4
    (by
      intro g hg
      refine rule (Nat.beq 35) 20 11 _ _ _ ?_
      refine pk_le 5 5 (fun _ => ?_) (fun q => absurd q (Nat.lt_irrefl _))
      exact one g hg 0 (Nat.zero_le _) none (fun k hk => absurd hk (Nat.not_lt_zero _)))
    (fun j hj ih => by
      intro g hg
      refine rule (Nat.beq 11) 20 11 _ _ _ ?_
      refine pk_le 5 (j + 1) (fun q => absurd q (by omega)) (fun _ => ?_)
      have hw' : AR (jx_st h 27 0 g 23 0) 15 16 gf_pw := hw
      have hs' : AR (jx_st h 27 0 g 26 0) 15 16 s := hs
      refine jx_cal (S_M_sumAt (j := j) hw' hs' hj) rfl (fun q h2 hq => ?_)
      obtain ⟨rfl, rfl⟩ := hq
      refine Exists.intro (j + 1) (And.intro (And.intro (by omega) rfl) ?_)
      refine jv_to (V := V) (ih (upd g (j + 1) (nI (sy s j))) (fun k hk => ?_)) (by rw [nI_add]) rfl (by rw [jx_st_same, jx_st_st])
      by_cases hkj : k = j
      · subst hkj; rw [upd_same]; exact ⟨rfl, sy_lt s k⟩
      · rw [upd_ne _ _ (by omega)]; exact hg k (by omega))
  refine rule (Nat.beq 11) 20 0 _ _ _ ?_
  refine jx_cal (S_M_isWord hw hs) rfl (fun q h2 hq => ?_)
  obtain ⟨rfl, rfl⟩ := hq
  refine pk_eq 0 0 (fun _ => ?_) (fun q => absurd rfl q) (by simp [c0]) rfl
  exact jv_to (V := V) (sums 0 (Nat.zero_le _) (h2 27 0) (fun k hk => absurd hk (Nat.not_lt_zero _))) rfl rfl (jx_st_id h2 27 0).symm
