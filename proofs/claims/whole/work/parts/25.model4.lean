/-! The reference: dots of the pages. -/
def PA (f : Nat → Int32) (p : Nat) (D : Nat → Nat → Bool) : Prop := ∀ x y, x < 18 → y < 18 → f (324 * p + 18 * y + x) = nI (D x y).toNat
/-- page p of f holds D; all else is f0's -/
def PF (f0 f : Nat → Int32) (p : Nat) (D : Nat → Nat → Bool) : Prop := PA f p D ∧ ∀ k, (k < 324 * p ∨ 324 * p + 324 ≤ k) → f k = f0 k
theorem PA.congr {f : Nat → Int32} {p : Nat} {D D' : Nat → Nat → Bool} (h : PA f p D) (he : ∀ x y, x < 18 → y < 18 → D x y = D' x y) : PA f p D' := fun x y hx hy => by
  rw [← he x y hx hy]; exact h x y hx hy
theorem PF.congr {f0 f : Nat → Int32} {p : Nat} {D D' : Nat → Nat → Bool} (h : PF f0 f p D) (he : ∀ x y, x < 18 → y < 18 → D x y = D' x y) : PF f0 f p D' := ⟨h.1.congr he, h.2⟩
theorem PF.put {f0 f : Nat → Int32} {p x y : Nat} {D : Nat → Nat → Bool} (h : PF f0 f p D) (hx : x < 18) (hy : y < 18) (v : Bool) : PF f0 (upd f (324 * p + 18 * y + x) (nI v.toNat)) p (fun a b => if a = x ∧ b = y then v else D a b) := by
  refine ⟨fun a b ha hb => ?_, fun k hk => ?_⟩
  · show _ = nI (if a = x ∧ b = y then v else D a b).toNat
    by_cases hab : a = x ∧ b = y
    · rw [if_pos hab, hab.1, hab.2, upd_same]
    · rw [upd_ne _ _ (by omega), if_neg hab]
      exact h.1 a b ha hb
  · rw [upd_ne _ _ (by omega)]
    exact h.2 k hk
theorem b01 (b : Bool) : nI b.toNat = nI 0 ∨ nI b.toNat = nI 1 := by cases b; exact Or.inl rfl; exact Or.inr rfl
theorem jn_at (p x y : Nat) : nI 324 * nI p + nI 18 * nI y + nI x = nI (324 * p + 18 * y + x) := by rw [pk_mul, pk_mul, nI_add, nI_add]
theorem S_M_dot {pg x y : Int32} {P : Nat} {DD : Nat → Nat → Nat → Bool} {h : jxH} (hP : h 20 0 3 = nI P) (hP6 : P ≤ 6) (hD : ∀ p, p < 6 → PA (h 22 0) p (DD p)) : jx_MW 66 [jR 20 0, jI pg, jI x, jI y] h
    (fun r h' => (hd9 pg x y P = true → (∀ p i j, p < P → i < 18 → j < 18 → pg = nI p → x = nI i → y = nI j → r = nI (DD p i j).toNat) ∧ h' = thr h 0) ∧ (hd9 pg x y P = false → h' = thr h 1)) := by
  refine jx_MW_by [some (jR 20 0), some (jI pg), some (jI x), some (jI y)] (by decide) rfl (Nat.le_of_ble_eq_true rfl) (fun V rule => ?_)
  refine rule (fun _ => false) 60 0 _ _ _ ?_
  refine jx_cal (S_M_noDot hP) rfl (fun z h2 hq => ?_)
  obtain ⟨rfl, rfl⟩ := hq
  cases e : hd9 pg x y P with
  | false =>
    refine pk_eq 1 0 (fun z => absurd z (by decide)) (fun _ => ?_)
    refine pk_eq 1 0 (fun z => absurd z (by decide)) (fun _ => ?_)
    exact And.intro (Or.inl rfl) (And.intro (fun z => absurd z (by decide)) (fun _ => rfl))
  | true =>
    refine pk_eq 0 0 (fun _ => ?_) (fun z => absurd rfl z)
    refine pk_eq 0 0 (fun _ => ?_) (fun z => absurd rfl z)
    simp only [hd9, Bool.and_eq_true] at e
    obtain ⟨p, hp, rfl⟩ := hp9_t (by omega) e.1
    obtain ⟨i, hi, rfl⟩ := hp9_t (by decide) e.2.1
    obtain ⟨j, hj, rfl⟩ := hp9_t (by decide) e.2.2
    refine Exists.intro (324 * p + 18 * j + i) (And.intro (And.intro (by omega) (jn_at p i j)) ?_)
    have ev : thr h2 0 22 0 (324 * p + 18 * j + i) = nI (DD p i j).toNat := hD p (by omega) i j hi hj
    have fin : ∀ c : Bool, DD p i j = c → ∀ p' i' j', p' < P → i' < 18 → j' < 18 → nI p = nI p' → nI i = nI i' → nI j = nI j' → nI c.toNat = nI (DD p' i' j').toNat := fun c hc p' i' j' h1 h2 h3 e1 e2 e3 => by
      rw [← jn_inj (by omega) (by omega) e1, ← jn_inj (by omega) (by omega) e2, ← jn_inj (by omega) (by omega) e3, hc]
    refine pk_eq (DD p i j).toNat 0 (fun q => ?_) (fun q => ?_) ev rfl (by have := toNat_le (DD p i j); omega) (by decide)
    · exact And.intro (Or.inl rfl) (And.intro (fun _ => And.intro (fin false (tn0 q)) rfl) (fun z => absurd z (by decide)))
    · exact And.intro (Or.inr rfl) (And.intro (fun _ => And.intro (fin true (tn1 q)) rfl) (fun z => absurd z (by decide)))
theorem S_M_flip {pg x y : Int32} {P : Nat} {DD : Nat → Nat → Nat → Bool} {h : jxH} (hP : h 20 0 3 = nI P) (hP6 : P ≤ 6) (hD : ∀ p, p < 6 → PA (h 22 0) p (DD p)) : jx_MW 68 [jR 20 0, jI pg, jI x, jI y] h
    (fun _ h' => (hd9 pg x y P = true → ∀ p i j, p < P → i < 18 → j < 18 → pg = nI p → x = nI i → y = nI j → ∃ f, h' = jx_st (thr h 0) 22 0 f ∧ PF (h 22 0) f p (fun a b => if a = i ∧ b = j then !DD p a b else DD p a b)) ∧ (hd9 pg x y P = false → h' = thr h 1)) := by
  refine jx_MW_by [some (jR 20 0), some (jI pg), some (jI x), some (jI y)] (by decide) rfl (Nat.le_of_ble_eq_true rfl) (fun V rule => ?_)
  refine rule (fun _ => false) 60 0 _ _ _ ?_
  refine jx_cal (S_M_noDot hP) rfl (fun z h2 hq => ?_)
  obtain ⟨rfl, rfl⟩ := hq
  cases e : hd9 pg x y P with
  | false =>
    refine pk_eq 1 0 (fun z => absurd z (by decide)) (fun _ => ?_)
    refine pk_eq 1 0 (fun z => absurd z (by decide)) (fun _ => ?_)
    exact And.intro (fun z => absurd z (by decide)) (fun _ => rfl)
  | true =>
    refine pk_eq 0 0 (fun _ => ?_) (fun z => absurd rfl z)
    refine pk_eq 0 0 (fun _ => ?_) (fun z => absurd rfl z)
    simp only [hd9, Bool.and_eq_true] at e
    obtain ⟨p, hp, rfl⟩ := hp9_t (by omega) e.1
    obtain ⟨i, hi, rfl⟩ := hp9_t (by decide) e.2.1
    obtain ⟨j, hj, rfl⟩ := hp9_t (by decide) e.2.2
    refine Exists.intro (324 * p + 18 * j + i) (And.intro (And.intro (by omega) (jn_at p i j)) ?_)
    have ev : thr h2 0 22 0 (324 * p + 18 * j + i) = nI (DD p i j).toNat := hD p (by omega) i j hi hj
    have fin : ∀ c : Bool, (!DD p i j) = c → ∀ p' i' j', p' < P → i' < 18 → j' < 18 → nI p = nI p' → nI i = nI i' → nI j = nI j' → ∃ f, jx_st (thr h2 0) 22 0 (upd (thr h2 0 22 0) (324 * p + 18 * j + i) (nI c.toNat)) = jx_st (thr h2 0) 22 0 f ∧ PF (h2 22 0) f p' (fun a b => if a = i' ∧ b = j' then !DD p' a b else DD p' a b) := fun c hc p' i' j' h1 h3 h4 e1 e2 e3 => by
      cases jn_inj (by omega) (by omega) e1
      cases jn_inj (by omega) (by omega) e2
      cases jn_inj (by omega) (by omega) e3
      refine ⟨_, rfl, ?_⟩
      have g0 : PF (h2 22 0) (h2 22 0) p (DD p) := ⟨hD p (by omega), fun _ _ => rfl⟩
      refine (g0.put hi hj c).congr (fun a b ha hb => ?_)
      by_cases hab : a = i ∧ b = j
      · rw [if_pos hab, if_pos hab, hab.1, hab.2, hc]
      · rw [if_neg hab, if_neg hab]
    refine pk_eq (DD p i j).toNat 0 (fun q => ?_) (fun q => ?_) ev rfl (by have := toNat_le (DD p i j); omega) (by decide)
    · refine Exists.intro (324 * p + 18 * j + i) (And.intro (And.intro (by omega) (And.intro (jn_at p i j) (Or.inr rfl))) ?_)
      exact And.intro (fun _ => fin true (by rw [tn0 q]; rfl)) (fun z => absurd z (by decide))
    · refine Exists.intro (324 * p + 18 * j + i) (And.intro (And.intro (by omega) (And.intro (jn_at p i j) (Or.inl rfl))) ?_)
      exact And.intro (fun _ => fin false (by rw [tn1 q]; rfl)) (fun z => absurd z (by decide))
theorem S_M_blot {pg x y wi hi : Int32} {c : Bool} {P : Nat} {DD : Nat → Nat → Nat → Bool} {h : jxH} (hP : h 20 0 3 = nI P) (hP6 : P ≤ 6) (hD : ∀ p, p < 6 → PA (h 22 0) p (DD p)) : jx_MW 64 [jR 20 0, jI pg, jI x, jI y, jI wi, jI hi, jI (nI c.toNat)] h
    (fun q h' => ((hd9 pg x y P && (sz9 wi && sz9 hi)) = true → ∀ p i j w g, p < P → i < 18 → j < 18 → 1 ≤ w → w ≤ 18 → 1 ≤ g → g ≤ 18 → pg = nI p → x = nI i → y = nI j → wi = nI w → hi = nI g → q = nI (sm (fun y => sm (df (DD p) c y) i (min (i + w) 18 - i)) j (min (j + g) 18 - j)) ∧ ∃ f, h' = jx_st (thr h 0) 22 0 f ∧ PF (h 22 0) f p (pD (DD p) i j (min (i + w) 18) (min (j + g) 18) c)) ∧ ((hd9 pg x y P && (sz9 wi && sz9 hi)) = false → h' = thr h 1)) := by
  refine jx_MW_by [some (jR 20 0), some (jI pg), some (jI x), some (jI y), some (jI wi), some (jI hi), some (jI (nI c.toNat)), none, none, none] (by decide) rfl (Nat.le_of_ble_eq_true rfl) (fun V rule => ?_)
  have bad : (hd9 pg x y P && (sz9 wi && sz9 hi)) = false → jx_blk 64 (Nat.beq 51) V (fun q h' => ((hd9 pg x y P && (sz9 wi && sz9 hi)) = true → ∀ p i j w g, p < P → i < 18 → j < 18 → 1 ≤ w → w ≤ 18 → 1 ≤ g → g ≤ 18 → pg = nI p → x = nI i → y = nI j → wi = nI w → hi = nI g → q = nI (sm (fun y => sm (df (DD p) c y) i (min (i + w) 18 - i)) j (min (j + g) 18 - j)) ∧ ∃ f, h' = jx_st (thr h 0) 22 0 f ∧ PF (h 22 0) f p (pD (DD p) i j (min (i + w) 18) (min (j + g) 18) c)) ∧ ((hd9 pg x y P && (sz9 wi && sz9 hi)) = false → h' = thr h 1)) (fun _ _ => False) 30 37 [some (jR 20 0), some (jI pg), some (jI x), some (jI y), some (jI wi), some (jI hi), some (jI (nI c.toNat)), none, none, none] [jR 20 0] h := by
    intro e
    refine rule (fun _ => false) 20 51 _ _ _ ?_
    refine pk_eq 1 0 (fun z => absurd z (by decide)) (fun _ => ?_)
    exact And.intro (fun z => absurd (e.symm.trans z) (by decide)) (fun _ => rfl)
  refine rule (Nat.beq 51) 80 0 _ _ _ ?_
  refine jx_cal (S_M_noDot hP) rfl (fun z h2 hq => ?_)
  obtain ⟨rfl, rfl⟩ := hq
  cases e0 : hd9 pg x y P with
  | false =>
    refine pk_eq 1 0 (fun z => absurd z (by decide)) (fun _ => ?_)
    rw [e0] at bad
    exact bad rfl
  | true =>
    rw [e0] at bad
    refine pk_eq 0 0 (fun _ => ?_) (fun z => absurd rfl z)
    refine br_c (fun q1 => ?_) (fun q1 => ?_)
    · exact bad (by simp [sz9, show wi < nI 1 from q1])
    refine br_c (fun q2 => ?_) (fun q2 => ?_)
    · exact bad (by simp [sz9, show nI 18 < wi from q2])
    refine br_c (fun q3 => ?_) (fun q3 => ?_)
    · exact bad (by simp [sz9, show hi < nI 1 from q3])
    refine br_c (fun q4 => ?_) (fun q4 => ?_)
    · have e1 : sz9 wi = true := by simp [sz9, show ¬ wi < nI 1 from q1, show ¬ nI 18 < wi from q2]
      have q5 : ¬ nI 18 < hi := Int32.not_lt.mpr q4
      have e2 : sz9 hi = true := by simp [sz9, show ¬ hi < nI 1 from q3, q5]
      simp only [hd9, Bool.and_eq_true] at e0
      obtain ⟨p, hp, rfl⟩ := hp9_t (by omega) e0.1
      obtain ⟨l, hl, rfl⟩ := hp9_t (by decide) e0.2.1
      obtain ⟨t, ht, rfl⟩ := hp9_t (by decide) e0.2.2
      obtain ⟨w, w1, w2, rfl⟩ := sz9_t e1
      obtain ⟨g, g1, g2, rfl⟩ := sz9_t e2
      obtain ⟨r, hr⟩ : ∃ r, r = min (l + w) 18 := ⟨_, rfl⟩
      obtain ⟨b, hb⟩ : ∃ b, b = min (t + g) 18 := ⟨_, rfl⟩
      have d1 : ∀ y x, df (DD p) c y x ≤ 1 := fun y x => by unfold df; split <;> omega
      have hc1 := toNat_le c
      have fin : ∀ f, PF (h2 22 0) f p (pD (DD p) l t r b c) → ((hd9 (nI p) (nI l) (nI t) P && (sz9 (nI w) && sz9 (nI g))) = true → ∀ p' i j w' g', p' < P → i < 18 → j < 18 → 1 ≤ w' → w' ≤ 18 → 1 ≤ g' → g' ≤ 18 → nI p = nI p' → nI l = nI i → nI t = nI j → nI w = nI w' → nI g = nI g' → nI (sm (fun y => sm (df (DD p) c y) l (r - l)) t (b - t)) = nI (sm (fun y => sm (df (DD p') c y) i (min (i + w') 18 - i)) j (min (j + g') 18 - j)) ∧ ∃ f', jx_st (thr h2 0) 22 0 f = jx_st (thr h2 0) 22 0 f' ∧ PF (h2 22 0) f' p' (pD (DD p') i j (min (i + w') 18) (min (j + g') 18) c)) ∧ ((hd9 (nI p) (nI l) (nI t) P && (sz9 (nI w) && sz9 (nI g))) = false → jx_st (thr h2 0) 22 0 f = thr h2 1) := by
        intro f hf
        refine And.intro (fun _ p' i j w' g' a1 a2 a3 a4 a5 a6 a7 z1 z2 z3 z4 z5 => ?_) (fun z => ?_)
        · cases jn_inj (by omega) (by omega) z1
          cases jn_inj (by omega) (by omega) z2
          cases jn_inj (by omega) (by omega) z3
          cases jn_inj (by omega) (by omega) z4
          cases jn_inj (by omega) (by omega) z5
          rw [← hr, ← hb]
          exact ⟨rfl, f, rfl, hf⟩
        · rw [e1, e2] at z
          have : hd9 (nI p) (nI l) (nI t) P = true := by rw [hd9, e0.1, e0.2.1, e0.2.2]; rfl
          rw [this] at z
          cases z
      have outer := jl_up (P := fun j => t ≤ j → ∀ (o : Option jxV) (f : Nat → Int32), PF (h2 22 0) f p (pD (DD p) l t r j c) → V 51 [some (jR 20 0), some (jI (nI p)), some (jI (nI l)), some (jI (nI t)), some (jI (nI w)), some (jI (nI g)), some (jI (nI c.toNat)), some (jI (nI (sm (fun y => sm (df (DD p) c y) l (r - l)) t (j - t)))), some (jI (nI j)), o] [] (jx_st (thr h2 0) 22 0 f)) b
        (by
          intro _ o f hf
          refine rule (fun _ => false) 20 51 _ _ _ ?_
          refine pk_eq 0 0 (fun _ => ?_) (fun z => absurd rfl z)
          refine pk_le (t + g) b (fun _ => ?_) (fun q => ?_) (nI_add _ _) rfl
          · exact fin f hf
          · refine pk_le 18 b (fun _ => ?_) (fun q => absurd q (by omega))
            exact fin f hf)
        (fun j hj ih => by
          intro htj o f hf
          have inner := jl_up (P := fun i => l ≤ i → ∀ (f : Nat → Int32), PF (h2 22 0) f p (fun x y => if y = j ∧ l ≤ x ∧ x < i then c else pD (DD p) l t r j c x y) → V 77 [some (jR 20 0), some (jI (nI p)), some (jI (nI l)), some (jI (nI t)), some (jI (nI w)), some (jI (nI g)), some (jI (nI c.toNat)), some (jI (nI (sm (fun y => sm (df (DD p) c y) l (r - l)) t (j - t) + sm (df (DD p) c j) l (i - l)))), some (jI (nI j)), some (jI (nI i))] [] (jx_st (thr h2 0) 22 0 f)) r
            (by
              intro _ f hf
              have leaf := jv_to (V := V) (ls := [some (jR 20 0), some (jI (nI p)), some (jI (nI l)), some (jI (nI t)), some (jI (nI w)), some (jI (nI g)), some (jI (nI c.toNat)), some (jI (nI (sm (fun y => sm (df (DD p) c y) l (r - l)) t (j - t) + sm (df (DD p) c j) l (r - l)))), some (jI (nI j + nI 1)), some (jI (nI r))]) (ih (by omega) (some (jI (nI r))) f (hf.congr (fun x y hx hy => by
                unfold pD
                by_cases hyj : y = j
                · subst hyj
                  by_cases h1 : l ≤ x ∧ x < r
                  · simp [h1, htj]
                  · simp [h1]
                    intro a1 a2
                    exact absurd ⟨a1, a2⟩ h1
                · have e1 : (y < j + 1) = (y < j) := propext ⟨fun q => by omega, fun q => by omega⟩
                  simp [hyj, e1]))) (by
                rw [nI_add, show j + 1 - t = (j - t) + 1 by omega]
                show _ = [some (jR 20 0), some (jI (nI p)), some (jI (nI l)), some (jI (nI t)), some (jI (nI w)), some (jI (nI g)), some (jI (nI c.toNat)), some (jI (nI (sm (fun y => sm (df (DD p) c y) l (r - l)) t (j - t) + sm (df (DD p) c (t + (j - t))) l (r - l)))), some (jI (nI (j + 1))), some (jI (nI r))]
                rw [show t + (j - t) = j by omega]) rfl rfl
              refine rule (Nat.beq 51) 20 77 _ _ _ ?_
              refine pk_le (l + w) r (fun _ => ?_) (fun q => ?_) (nI_add _ _) rfl
              · exact leaf
              · refine pk_le 18 r (fun _ => ?_) (fun q => absurd q (by omega))
                exact leaf)
            (fun i hi ih2 => by
              intro hli f hf
              refine rule (Nat.beq 77) 60 77 _ _ _ ?_
              refine pk_le (l + w) i (fun q => absurd q (by omega)) (fun _ => ?_) (nI_add _ _) rfl
              refine pk_le 18 i (fun q => absurd q (by omega)) (fun _ => ?_)
              refine Exists.intro (324 * p + 18 * j + i) (And.intro (And.intro (by omega) (jn_at p i j)) ?_)
              have e0 : jx_st (thr h2 0) 22 0 f 22 0 (324 * p + 18 * j + i) = nI (DD p i j).toNat := by
                rw [jx_st_same, hf.1 i j (by omega) (by omega)]
                simp [pD]
              have ei : i + 1 - l = (i - l) + 1 := by omega
              have el : l + (i - l) = i := by omega
              have nxt := ih2 (by omega) (upd f (324 * p + 18 * j + i) (nI c.toNat)) ((hf.put (x := i) (y := j) (by omega) (by omega) c).congr (fun x y hx hy => by
                by_cases hyj : y = j
                · subst hyj
                  by_cases hxi : x = i
                  · subst hxi
                    simp [hli]
                  · have e1 : (x < i + 1) = (x < i) := propext ⟨fun q => by omega, fun q => by omega⟩
                    simp [e1, hxi]
                · simp [hyj]))
              have eN : nI (sm (fun y => sm (df (DD p) c y) l (r - l)) t (j - t) + sm (df (DD p) c j) l (i + 1 - l)) = nI (sm (fun y => sm (df (DD p) c y) l (r - l)) t (j - t) + sm (df (DD p) c j) l (i - l)) + nI (df (DD p) c j i) := by
                rw [nI_add, ei]
                show nI (_ + (sm (df (DD p) c j) l (i - l) + df (DD p) c j (l + (i - l)))) = _
                rw [el, Nat.add_assoc]
              have eH : jx_st (jx_st (thr h2 0) 22 0 f) 22 0 (upd (jx_st (thr h2 0) 22 0 f 22 0) (324 * p + 18 * j + i) (nI c.toNat)) = jx_st (thr h2 0) 22 0 (upd f (324 * p + 18 * j + i) (nI c.toNat)) := by
                rw [jx_st_same, jx_st_st]
              refine pk_eq (DD p i j).toNat c.toNat (fun q => ?_) (fun q => ?_) e0 rfl (by have := toNat_le (DD p i j); omega) (by omega)
              · have q1 := toNat_inj.mp q
                refine Exists.intro (324 * p + 18 * j + i) (And.intro (And.intro (by omega) (And.intro (jn_at p i j) (b01 c))) ?_)
                refine jv_to (V := V) nxt ?_ rfl eH
                rw [eN, nI_add i 1, show df (DD p) c j i = 0 by simp [df, q1]]
              · have q1 : ¬ DD p i j = c := fun z => q (toNat_inj.mpr z)
                refine Exists.intro (324 * p + 18 * j + i) (And.intro (And.intro (by omega) (And.intro (jn_at p i j) (b01 c))) ?_)
                refine jv_to (V := V) nxt ?_ rfl eH
                rw [eN, nI_add i 1, show df (DD p) c j i = 1 by simp [df, q1]])
          refine rule (Nat.beq 77) 20 51 _ _ _ ?_
          refine pk_eq 0 0 (fun _ => ?_) (fun z => absurd rfl z)
          refine pk_le (t + g) j (fun q => absurd q (by omega)) (fun _ => ?_) (nI_add _ _) rfl
          refine pk_le 18 j (fun q => absurd q (by omega)) (fun _ => ?_)
          refine jv_to (V := V) (inner l (by omega) (Nat.le_refl _) f (hf.congr (fun x y hx hy => ?_))) ?_ rfl rfl
          · rw [if_neg (fun q => by omega)]
          · rw [Nat.sub_self]
            rfl)
      have g0 : PF (h2 22 0) (h2 22 0) p (DD p) := ⟨hD p (by omega), fun _ _ => rfl⟩
      refine jv_to (V := V) (outer t (by omega) (Nat.le_refl _) none (h2 22 0) (g0.congr (fun x y hx hy => ?_))) ?_ rfl (jx_st_id (thr h2 0) 22 0).symm
      · unfold pD
        rw [if_neg (fun q => by omega)]
      · rw [Nat.sub_self]
        rfl
    · have q5 : nI 18 < hi := Int32.not_le.mp q4
      exact bad (by simp [sz9, q5])
