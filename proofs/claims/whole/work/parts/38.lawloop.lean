/-! The law's loop over the pure machine. -/
theorem jx_MWR_mono {ω : Nat} {hh : List (Nat × Nat × Nat × Nat)} {as : List jxV} {h : jxH} {E E' : Int32 → jxH → Prop} (hM : jx_MWR ω hh as h E) (hE : ∀ r h', E r h' → E' r h') : jx_MWR ω hh as h E' := by
  intro l G sz hst hok hk1 p e ha hc hk s m args below hf happ hP hK
  obtain ⟨n, o, h1, h2, h3, ⟨⟨⟨r, h', e1, e2, e3⟩, e4⟩, h5⟩⟩ := hM l G sz hst hok hk1 p e ha hc hk s m args below hf happ hP hK
  exact ⟨n, o, h1, h2, h3, ⟨⟨⟨r, h', e1, hE r h' e2, e3⟩, e4⟩, h5⟩⟩
section LC
variable {SL : Nat × (Nat → Int32)} {V : Nat → Nat → jxL → List jxV → jxH → Prop} {k n : Nat} {h : jxH} {o5 o6 : Option jxV}
theorem C_load (rule : ∀ (cut : Nat → Bool) (f n pc : Nat) (ls : jxL) (st : List jxV) (h : jxH), n ≤ 600 → jl_blk SL cut V f n pc ls st h → V n pc ls st h) (hk : 7 * k + 7 ≤ SL.1) (hn : n < 600) (hR : REL h) (nxt : ∀ (n' : Nat) (o5 o6 : Option jxV) (h' : jxH), n' ≤ n + 1 → REL h' → V n' 748 [some (jR 34 0), some (jR 0 0), some (jR 20 0), some (jR 33 0), some (jI (nI (7 * k))), o5, o6] [] h') : V n 104 [some (jR 34 0), some (jR 0 0), some (jR 20 0), some (jR 33 0), some (jI (nI (7 * k))), o5, o6] [] h := by
  have tail : ∀ (k' r2 : Int32) (h2 : jxH), ((k' = nI 0 ∧ h2 20 0 0 = nI 0 ∧ h2 33 0 0 = r2) ∨ (∃ t, 0 < t ∧ t < 3 ∧ k' = nI t ∧ h2 20 0 0 = nI t)) → REL h2 → ∀ o6, V (n + 1) 127 [some (jR 34 0), some (jR 0 0), some (jR 20 0), some (jR 33 0), some (jI (nI (7 * k))), some (jI k'), o6] [jI r2] h2 := by
    intro k' r2 h2 hc hR2 o6
    refine rule (Nat.beq 748) 60 (n + 1) 127 _ _ _ (by omega) ?_
    refine jx_cal S_M_thrown rfl (fun r3 h3 hq => ?_)
    obtain ⟨rfl, rfl⟩ := hq
    rcases hc with ⟨rfl, e1, e2⟩ | ⟨t, t0, t3, rfl, e1⟩
    · refine br_c (fun _ => ?_) (fun q => absurd e1 q)
      refine pk_eq 0 0 (fun _ => ?_) (fun q => absurd rfl q)
      refine Exists.intro 0 (And.intro (And.intro (by decide) rfl) ?_)
      refine And.intro (fun _ => ?_) (fun q => absurd e2 q)
      refine pk_eq 0 0 (fun _ => ?_) (fun q => absurd rfl q)
      exact nxt (n + 1) _ _ _ (Nat.le_refl _) hR2
    · refine br_c (fun _ => ?_) (fun q => absurd e1 q)
      refine pk_eq t 0 (fun q => absurd q (by omega)) (fun _ => ?_)
      exact nxt (n + 1) _ _ _ (Nat.le_refl _) hR2
  refine rule (Nat.beq 127) 60 n 104 _ _ _ (by omega) ?_
  refine Exists.intro (7 * k + 1) (And.intro (And.intro (by omega) (nI_add _ _)) ?_)
  refine And.intro hn (jx_MWR_mono (M_load hR) (fun k1 h1 hq => ?_))
  refine Exists.intro (7 * k + 1) (And.intro (And.intro (by omega) (nI_add _ _)) ?_)
  rcases hq with ⟨rfl, f9, hq⟩ | ⟨t, t0, t3, rfl, hq⟩
  · refine jx_cal hq rfl (fun r2 h2 hq2 => ?_)
    obtain ⟨e1, rfl, e3, e4⟩ := hq2
    exact tail (nI 0) _ h2 (Or.inl ⟨rfl, e1, by rw [e3]⟩) e4 _
  · refine jx_cal hq rfl (fun r2 h2 hq2 => ?_)
    obtain ⟨e1, e4⟩ := hq2
    exact tail (nI t) _ h2 (Or.inr ⟨t, t0, t3, rfl, e1⟩) e4 _
theorem C_print (rule : ∀ (cut : Nat → Bool) (f n pc : Nat) (ls : jxL) (st : List jxV) (h : jxH), n ≤ 600 → jl_blk SL cut V f n pc ls st h → V n pc ls st h) (hk : 7 * k + 7 ≤ SL.1) (hn : n < 600) (hR : REL h) (nxt : ∀ (n' : Nat) (o5 o6 : Option jxV) (h' : jxH), n' ≤ n + 1 → REL h' → V n' 748 [some (jR 34 0), some (jR 0 0), some (jR 20 0), some (jR 33 0), some (jI (nI (7 * k))), o5, o6] [] h') : V n 173 [some (jR 34 0), some (jR 0 0), some (jR 20 0), some (jR 33 0), some (jI (nI (7 * k))), o5, o6] [] h := by
  have tail : ∀ (k' r2 : Int32) (h2 : jxH), ((k' = nI 0 ∧ h2 20 0 0 = nI 0 ∧ h2 33 0 0 = r2) ∨ (∃ t, 0 < t ∧ t < 3 ∧ k' = nI t ∧ h2 20 0 0 = nI t)) → REL h2 → ∀ o6, V (n + 1) 184 [some (jR 34 0), some (jR 0 0), some (jR 20 0), some (jR 33 0), some (jI (nI (7 * k))), some (jI k'), o6] [jI r2] h2 := by
    intro k' r2 h2 hc hR2 o6
    refine rule (Nat.beq 748) 60 (n + 1) 184 _ _ _ (by omega) ?_
    refine jx_cal S_M_thrown rfl (fun r3 h3 hq => ?_)
    obtain ⟨rfl, rfl⟩ := hq
    rcases hc with ⟨rfl, e1, e2⟩ | ⟨t, t0, t3, rfl, e1⟩
    · refine br_c (fun _ => ?_) (fun q => absurd e1 q)
      refine pk_eq 0 0 (fun _ => ?_) (fun q => absurd rfl q)
      refine Exists.intro 0 (And.intro (And.intro (by decide) rfl) ?_)
      refine And.intro (fun _ => ?_) (fun q => absurd e2 q)
      refine pk_eq 0 0 (fun _ => ?_) (fun q => absurd rfl q)
      exact nxt (n + 1) _ _ _ (Nat.le_refl _) hR2
    · refine br_c (fun _ => ?_) (fun q => absurd e1 q)
      refine pk_eq t 0 (fun q => absurd q (by omega)) (fun _ => ?_)
      exact nxt (n + 1) _ _ _ (Nat.le_refl _) hR2
  refine rule (Nat.beq 184) 60 n 173 _ _ _ (by omega) ?_
  refine And.intro hn (jx_MWR_mono (M_print hR) (fun k1 h1 hq => ?_))
  rcases hq with ⟨rfl, f9, hq⟩ | ⟨t, t0, t3, rfl, hq⟩
  · refine jx_cal hq rfl (fun r2 h2 hq2 => ?_)
    obtain ⟨e1, rfl, e3, e4⟩ := hq2
    exact tail (nI 0) _ h2 (Or.inl ⟨rfl, e1, by rw [e3]⟩) e4 _
  · refine jx_cal hq rfl (fun r2 h2 hq2 => ?_)
    obtain ⟨e1, e4⟩ := hq2
    exact tail (nI t) _ h2 (Or.inr ⟨t, t0, t3, rfl, e1⟩) e4 _
theorem C_feed (rule : ∀ (cut : Nat → Bool) (f n pc : Nat) (ls : jxL) (st : List jxV) (h : jxH), n ≤ 600 → jl_blk SL cut V f n pc ls st h → V n pc ls st h) (hk : 7 * k + 7 ≤ SL.1) (hn : n < 600) (hR : REL h) (nxt : ∀ (n' : Nat) (o5 o6 : Option jxV) (h' : jxH), n' ≤ n + 1 → REL h' → V n' 748 [some (jR 34 0), some (jR 0 0), some (jR 20 0), some (jR 33 0), some (jI (nI (7 * k))), o5, o6] [] h') : V n 498 [some (jR 34 0), some (jR 0 0), some (jR 20 0), some (jR 33 0), some (jI (nI (7 * k))), o5, o6] [] h := by
  have tail : ∀ (k' r2 : Int32) (h2 : jxH), ((k' = nI 0 ∧ h2 20 0 0 = nI 0 ∧ h2 33 0 0 = r2) ∨ (∃ t, 0 < t ∧ t < 3 ∧ k' = nI t ∧ h2 20 0 0 = nI t)) → REL h2 → ∀ o6, V (n + 1) 533 [some (jR 34 0), some (jR 0 0), some (jR 20 0), some (jR 33 0), some (jI (nI (7 * k))), some (jI k'), o6] [jI r2] h2 := by
    intro k' r2 h2 hc hR2 o6
    refine rule (Nat.beq 748) 60 (n + 1) 533 _ _ _ (by omega) ?_
    refine jx_cal S_M_thrown rfl (fun r3 h3 hq => ?_)
    obtain ⟨rfl, rfl⟩ := hq
    rcases hc with ⟨rfl, e1, e2⟩ | ⟨t, t0, t3, rfl, e1⟩
    · refine br_c (fun _ => ?_) (fun q => absurd e1 q)
      refine pk_eq 0 0 (fun _ => ?_) (fun q => absurd rfl q)
      refine Exists.intro 0 (And.intro (And.intro (by decide) rfl) ?_)
      refine And.intro (fun _ => ?_) (fun q => absurd e2 q)
      refine pk_eq 0 0 (fun _ => ?_) (fun q => absurd rfl q)
      exact nxt (n + 1) _ _ _ (Nat.le_refl _) hR2
    · refine br_c (fun _ => ?_) (fun q => absurd e1 q)
      refine pk_eq t 0 (fun q => absurd q (by omega)) (fun _ => ?_)
      exact nxt (n + 1) _ _ _ (Nat.le_refl _) hR2
  refine rule (Nat.beq 533) 60 n 498 _ _ _ (by omega) ?_
  refine Exists.intro (7 * k + 1) (And.intro (And.intro (by omega) (nI_add _ _)) ?_)
  refine Exists.intro (7 * k + 2) (And.intro (And.intro (by omega) (nI_add _ _)) ?_)
  refine And.intro hn (jx_MWR_mono (M_feed hR) (fun k1 h1 hq => ?_))
  refine Exists.intro (7 * k + 1) (And.intro (And.intro (by omega) (nI_add _ _)) ?_)
  refine Exists.intro (7 * k + 2) (And.intro (And.intro (by omega) (nI_add _ _)) ?_)
  rcases hq with ⟨rfl, f9, hq⟩ | ⟨t, t0, t3, rfl, hq⟩
  · refine jx_cal hq rfl (fun r2 h2 hq2 => ?_)
    obtain ⟨e1, rfl, e3, e4⟩ := hq2
    exact tail (nI 0) _ h2 (Or.inl ⟨rfl, e1, by rw [e3]⟩) e4 _
  · refine jx_cal hq rfl (fun r2 h2 hq2 => ?_)
    obtain ⟨e1, e4⟩ := hq2
    exact tail (nI t) _ h2 (Or.inr ⟨t, t0, t3, rfl, e1⟩) e4 _
theorem C_errors (rule : ∀ (cut : Nat → Bool) (f n pc : Nat) (ls : jxL) (st : List jxV) (h : jxH), n ≤ 600 → jl_blk SL cut V f n pc ls st h → V n pc ls st h) (hk : 7 * k + 7 ≤ SL.1) (hn : n < 600) (hR : REL h) (nxt : ∀ (n' : Nat) (o5 o6 : Option jxV) (h' : jxH), n' ≤ n + 1 → REL h' → V n' 748 [some (jR 34 0), some (jR 0 0), some (jR 20 0), some (jR 33 0), some (jI (nI (7 * k))), o5, o6] [] h') : V n 566 [some (jR 34 0), some (jR 0 0), some (jR 20 0), some (jR 33 0), some (jI (nI (7 * k))), o5, o6] [] h := by
  have tail : ∀ (k' r2 : Int32) (h2 : jxH), ((k' = nI 0 ∧ h2 20 0 0 = nI 0 ∧ h2 33 0 0 = r2) ∨ (∃ t, 0 < t ∧ t < 3 ∧ k' = nI t ∧ h2 20 0 0 = nI t)) → REL h2 → ∀ o6, V (n + 1) 589 [some (jR 34 0), some (jR 0 0), some (jR 20 0), some (jR 33 0), some (jI (nI (7 * k))), some (jI k'), o6] [jI r2] h2 := by
    intro k' r2 h2 hc hR2 o6
    refine rule (Nat.beq 748) 60 (n + 1) 589 _ _ _ (by omega) ?_
    refine jx_cal S_M_thrown rfl (fun r3 h3 hq => ?_)
    obtain ⟨rfl, rfl⟩ := hq
    rcases hc with ⟨rfl, e1, e2⟩ | ⟨t, t0, t3, rfl, e1⟩
    · refine br_c (fun _ => ?_) (fun q => absurd e1 q)
      refine pk_eq 0 0 (fun _ => ?_) (fun q => absurd rfl q)
      refine Exists.intro 0 (And.intro (And.intro (by decide) rfl) ?_)
      refine And.intro (fun _ => ?_) (fun q => absurd e2 q)
      refine pk_eq 0 0 (fun _ => ?_) (fun q => absurd rfl q)
      exact nxt (n + 1) _ _ _ (Nat.le_refl _) hR2
    · refine br_c (fun _ => ?_) (fun q => absurd e1 q)
      refine pk_eq t 0 (fun q => absurd q (by omega)) (fun _ => ?_)
      exact nxt (n + 1) _ _ _ (Nat.le_refl _) hR2
  refine rule (Nat.beq 589) 60 n 566 _ _ _ (by omega) ?_
  refine Exists.intro (7 * k + 1) (And.intro (And.intro (by omega) (nI_add _ _)) ?_)
  refine And.intro hn (jx_MWR_mono (M_errors hR) (fun k1 h1 hq => ?_))
  refine Exists.intro (7 * k + 1) (And.intro (And.intro (by omega) (nI_add _ _)) ?_)
  rcases hq with ⟨rfl, f9, hq⟩ | ⟨t, t0, t3, rfl, hq⟩
  · refine jx_cal hq rfl (fun r2 h2 hq2 => ?_)
    obtain ⟨e1, rfl, e3, e4⟩ := hq2
    exact tail (nI 0) _ h2 (Or.inl ⟨rfl, e1, by rw [e3]⟩) e4 _
  · refine jx_cal hq rfl (fun r2 h2 hq2 => ?_)
    obtain ⟨e1, e4⟩ := hq2
    exact tail (nI t) _ h2 (Or.inr ⟨t, t0, t3, rfl, e1⟩) e4 _
theorem C_rebuild (rule : ∀ (cut : Nat → Bool) (f n pc : Nat) (ls : jxL) (st : List jxV) (h : jxH), n ≤ 600 → jl_blk SL cut V f n pc ls st h → V n pc ls st h) (hk : 7 * k + 7 ≤ SL.1) (hn : n < 600) (hR : REL h) (nxt : ∀ (n' : Nat) (o5 o6 : Option jxV) (h' : jxH), n' ≤ n + 1 → REL h' → V n' 748 [some (jR 34 0), some (jR 0 0), some (jR 20 0), some (jR 33 0), some (jI (nI (7 * k))), o5, o6] [] h') : V n 635 [some (jR 34 0), some (jR 0 0), some (jR 20 0), some (jR 33 0), some (jI (nI (7 * k))), o5, o6] [] h := by
  have tail : ∀ (k' r2 : Int32) (h2 : jxH), ((k' = nI 0 ∧ h2 20 0 0 = nI 0 ∧ h2 33 0 0 = r2) ∨ (∃ t, 0 < t ∧ t < 3 ∧ k' = nI t ∧ h2 20 0 0 = nI t)) → REL h2 → ∀ o6, V (n + 1) 646 [some (jR 34 0), some (jR 0 0), some (jR 20 0), some (jR 33 0), some (jI (nI (7 * k))), some (jI k'), o6] [jI r2] h2 := by
    intro k' r2 h2 hc hR2 o6
    refine rule (Nat.beq 748) 60 (n + 1) 646 _ _ _ (by omega) ?_
    refine jx_cal S_M_thrown rfl (fun r3 h3 hq => ?_)
    obtain ⟨rfl, rfl⟩ := hq
    rcases hc with ⟨rfl, e1, e2⟩ | ⟨t, t0, t3, rfl, e1⟩
    · refine br_c (fun _ => ?_) (fun q => absurd e1 q)
      refine pk_eq 0 0 (fun _ => ?_) (fun q => absurd rfl q)
      refine Exists.intro 0 (And.intro (And.intro (by decide) rfl) ?_)
      refine And.intro (fun _ => ?_) (fun q => absurd e2 q)
      refine pk_eq 0 0 (fun _ => ?_) (fun q => absurd rfl q)
      exact nxt (n + 1) _ _ _ (Nat.le_refl _) hR2
    · refine br_c (fun _ => ?_) (fun q => absurd e1 q)
      refine pk_eq t 0 (fun q => absurd q (by omega)) (fun _ => ?_)
      exact nxt (n + 1) _ _ _ (Nat.le_refl _) hR2
  refine rule (Nat.beq 646) 60 n 635 _ _ _ (by omega) ?_
  refine And.intro hn (jx_MWR_mono (M_rebuild hR) (fun k1 h1 hq => ?_))
  rcases hq with ⟨rfl, f9, hq⟩ | ⟨t, t0, t3, rfl, hq⟩
  · refine jx_cal hq rfl (fun r2 h2 hq2 => ?_)
    obtain ⟨e1, rfl, e3, e4⟩ := hq2
    exact tail (nI 0) _ h2 (Or.inl ⟨rfl, e1, by rw [e3]⟩) e4 _
  · refine jx_cal hq rfl (fun r2 h2 hq2 => ?_)
    obtain ⟨e1, e4⟩ := hq2
    exact tail (nI t) _ h2 (Or.inr ⟨t, t0, t3, rfl, e1⟩) e4 _
theorem C_out (rule : ∀ (cut : Nat → Bool) (f n pc : Nat) (ls : jxL) (st : List jxV) (h : jxH), n ≤ 600 → jl_blk SL cut V f n pc ls st h → V n pc ls st h) (hk : 7 * k + 7 ≤ SL.1) (hn : n < 600) (hR : REL h) (nxt : ∀ (n' : Nat) (o5 o6 : Option jxV) (h' : jxH), n' ≤ n + 1 → REL h' → V n' 748 [some (jR 34 0), some (jR 0 0), some (jR 20 0), some (jR 33 0), some (jI (nI (7 * k))), o5, o6] [] h') : V n 679 [some (jR 34 0), some (jR 0 0), some (jR 20 0), some (jR 33 0), some (jI (nI (7 * k))), o5, o6] [] h := by
  have tail : ∀ (k' r2 : Int32) (h2 : jxH), ((k' = nI 0 ∧ h2 20 0 0 = nI 0 ∧ h2 33 0 0 = r2) ∨ (∃ t, 0 < t ∧ t < 3 ∧ k' = nI t ∧ h2 20 0 0 = nI t)) → REL h2 → ∀ o6, V (n + 1) 702 [some (jR 34 0), some (jR 0 0), some (jR 20 0), some (jR 33 0), some (jI (nI (7 * k))), some (jI k'), o6] [jI r2] h2 := by
    intro k' r2 h2 hc hR2 o6
    refine rule (Nat.beq 748) 60 (n + 1) 702 _ _ _ (by omega) ?_
    refine jx_cal S_M_thrown rfl (fun r3 h3 hq => ?_)
    obtain ⟨rfl, rfl⟩ := hq
    rcases hc with ⟨rfl, e1, e2⟩ | ⟨t, t0, t3, rfl, e1⟩
    · refine br_c (fun _ => ?_) (fun q => absurd e1 q)
      refine pk_eq 0 0 (fun _ => ?_) (fun q => absurd rfl q)
      refine Exists.intro 0 (And.intro (And.intro (by decide) rfl) ?_)
      refine And.intro (fun _ => ?_) (fun q => absurd e2 q)
      refine pk_eq 0 0 (fun _ => ?_) (fun q => absurd rfl q)
      exact nxt (n + 1) _ _ _ (Nat.le_refl _) hR2
    · refine br_c (fun _ => ?_) (fun q => absurd e1 q)
      refine pk_eq t 0 (fun q => absurd q (by omega)) (fun _ => ?_)
      exact nxt (n + 1) _ _ _ (Nat.le_refl _) hR2
  refine rule (Nat.beq 702) 60 n 679 _ _ _ (by omega) ?_
  refine Exists.intro (7 * k + 1) (And.intro (And.intro (by omega) (nI_add _ _)) ?_)
  refine And.intro hn (jx_MWR_mono (M_out hR) (fun k1 h1 hq => ?_))
  refine Exists.intro (7 * k + 1) (And.intro (And.intro (by omega) (nI_add _ _)) ?_)
  rcases hq with ⟨rfl, f9, hq⟩ | ⟨t, t0, t3, rfl, hq⟩
  · refine jx_cal hq rfl (fun r2 h2 hq2 => ?_)
    obtain ⟨e1, rfl, e3, e4⟩ := hq2
    exact tail (nI 0) _ h2 (Or.inl ⟨rfl, e1, by rw [e3]⟩) e4 _
  · refine jx_cal hq rfl (fun r2 h2 hq2 => ?_)
    obtain ⟨e1, e4⟩ := hq2
    exact tail (nI t) _ h2 (Or.inr ⟨t, t0, t3, rfl, e1⟩) e4 _
theorem C_dot (rule : ∀ (cut : Nat → Bool) (f n pc : Nat) (ls : jxL) (st : List jxV) (h : jxH), n ≤ 600 → jl_blk SL cut V f n pc ls st h → V n pc ls st h) (hk : 7 * k + 7 ≤ SL.1) (hn : n < 600) (hR : REL h) (nxt : ∀ (n' : Nat) (o5 o6 : Option jxV) (h' : jxH), n' ≤ n + 1 → REL h' → V n' 748 [some (jR 34 0), some (jR 0 0), some (jR 20 0), some (jR 33 0), some (jI (nI (7 * k))), o5, o6] [] h') : V n 217 [some (jR 34 0), some (jR 0 0), some (jR 20 0), some (jR 33 0), some (jI (nI (7 * k))), o5, o6] [] h := by
  have tail : ∀ (k' r2 : Int32) (h2 : jxH), ((k' = nI 0 ∧ h2 20 0 0 = nI 0 ∧ (r2 = 0 → h2 33 0 0 = nI 0) ∧ (¬ r2 = 0 → h2 33 0 0 = nI 1)) ∨ (∃ t, 0 < t ∧ t < 3 ∧ k' = nI t ∧ h2 20 0 0 = nI t)) → REL h2 → ∀ o6, V (n + 1) 264 [some (jR 34 0), some (jR 0 0), some (jR 20 0), some (jR 33 0), some (jI (nI (7 * k))), some (jI k'), o6] [jI r2] h2 := by
    intro k' r2 h2 hc hR2 o6
    refine rule (Nat.beq 748) 60 (n + 1) 264 _ _ _ (by omega) ?_
    refine jx_cal S_M_thrown rfl (fun r3 h3 hq => ?_)
    obtain ⟨rfl, rfl⟩ := hq
    rcases hc with ⟨rfl, e1, e2, e2'⟩ | ⟨t, t0, t3, rfl, e1⟩
    · refine br_c (fun _ => ?_) (fun q => absurd e1 q)
      refine pk_eq 0 0 (fun _ => ?_) (fun q => absurd rfl q)
      refine Exists.intro 0 (And.intro (And.intro (by decide) rfl) ?_)
      refine br_c (fun z => ?_) (fun z => ?_)
      · refine And.intro (fun _ => ?_) (fun q => absurd (e2 z) q)
        refine pk_eq 0 0 (fun _ => ?_) (fun q => absurd rfl q)
        exact nxt (n + 1) _ _ _ (Nat.le_refl _) hR2
      · refine And.intro (fun _ => ?_) (fun q => absurd (e2' z) q)
        refine pk_eq 0 0 (fun _ => ?_) (fun q => absurd rfl q)
        exact nxt (n + 1) _ _ _ (Nat.le_refl _) hR2
    · refine br_c (fun _ => ?_) (fun q => absurd e1 q)
      refine pk_eq t 0 (fun q => absurd q (by omega)) (fun _ => ?_)
      exact nxt (n + 1) _ _ _ (Nat.le_refl _) hR2
  refine rule (Nat.beq 264) 60 n 217 _ _ _ (by omega) ?_
  refine Exists.intro (7 * k + 1) (And.intro (And.intro (by omega) (nI_add _ _)) ?_)
  refine Exists.intro (7 * k + 2) (And.intro (And.intro (by omega) (nI_add _ _)) ?_)
  refine Exists.intro (7 * k + 3) (And.intro (And.intro (by omega) (nI_add _ _)) ?_)
  refine And.intro hn (jx_MWR_mono (M_dot hR) (fun k1 h1 hq => ?_))
  refine Exists.intro (7 * k + 1) (And.intro (And.intro (by omega) (nI_add _ _)) ?_)
  refine Exists.intro (7 * k + 2) (And.intro (And.intro (by omega) (nI_add _ _)) ?_)
  refine Exists.intro (7 * k + 3) (And.intro (And.intro (by omega) (nI_add _ _)) ?_)
  rcases hq with ⟨rfl, f9, r, hq, g1, g2⟩ | ⟨t, t0, t3, rfl, hq⟩
  · refine jx_cal hq rfl (fun r2 h2 hq2 => ?_)
    obtain ⟨e1, rfl, e3, e4⟩ := hq2
    exact tail (nI 0) _ h2 (Or.inl ⟨rfl, e1, by rw [e3]; exact g1, by rw [e3]; exact g2⟩) e4 _
  · refine jx_cal hq rfl (fun r2 h2 hq2 => ?_)
    obtain ⟨e1, e4⟩ := hq2
    exact tail (nI t) _ h2 (Or.inr ⟨t, t0, t3, rfl, e1⟩) e4 _
theorem C_blot (rule : ∀ (cut : Nat → Bool) (f n pc : Nat) (ls : jxL) (st : List jxV) (h : jxH), n ≤ 600 → jl_blk SL cut V f n pc ls st h → V n pc ls st h) (hk : 7 * k + 7 ≤ SL.1) (hn : n < 600) (hR : REL h) (nxt : ∀ (n' : Nat) (o5 o6 : Option jxV) (h' : jxH), n' ≤ n + 1 → REL h' → V n' 748 [some (jR 34 0), some (jR 0 0), some (jR 20 0), some (jR 33 0), some (jI (nI (7 * k))), o5, o6] [] h') : V n 304 [some (jR 34 0), some (jR 0 0), some (jR 20 0), some (jR 33 0), some (jI (nI (7 * k))), o5, o6] [] h := by
  have tail : ∀ (k' r2 : Int32) (h2 : jxH), ((k' = nI 0 ∧ h2 20 0 0 = nI 0 ∧ h2 33 0 0 = r2) ∨ (∃ t, 0 < t ∧ t < 3 ∧ k' = nI t ∧ h2 20 0 0 = nI t)) → REL h2 → ∀ o6, V (n + 1) 405 [some (jR 34 0), some (jR 0 0), some (jR 20 0), some (jR 33 0), some (jI (nI (7 * k))), some (jI k'), o6] [jI r2] h2 := by
    intro k' r2 h2 hc hR2 o6
    refine rule (Nat.beq 748) 60 (n + 1) 405 _ _ _ (by omega) ?_
    refine jx_cal S_M_thrown rfl (fun r3 h3 hq => ?_)
    obtain ⟨rfl, rfl⟩ := hq
    rcases hc with ⟨rfl, e1, e2⟩ | ⟨t, t0, t3, rfl, e1⟩
    · refine br_c (fun _ => ?_) (fun q => absurd e1 q)
      refine pk_eq 0 0 (fun _ => ?_) (fun q => absurd rfl q)
      refine Exists.intro 0 (And.intro (And.intro (by decide) rfl) ?_)
      refine And.intro (fun _ => ?_) (fun q => absurd e2 q)
      refine pk_eq 0 0 (fun _ => ?_) (fun q => absurd rfl q)
      exact nxt (n + 1) _ _ _ (Nat.le_refl _) hR2
    · refine br_c (fun _ => ?_) (fun q => absurd e1 q)
      refine pk_eq t 0 (fun q => absurd q (by omega)) (fun _ => ?_)
      exact nxt (n + 1) _ _ _ (Nat.le_refl _) hR2
  have mid : ∀ c : Bool, (c = true → ¬ SL.2 (7 * k + 6) = 0) → (c = false → SL.2 (7 * k + 6) = 0) → V n 350 [some (jR 34 0), some (jR 0 0), some (jR 20 0), some (jR 33 0), some (jI (nI (7 * k))), o5, o6] [jI (nI c.toNat), jI (SL.2 (7 * k + 5)), jI (SL.2 (7 * k + 4)), jI (SL.2 (7 * k + 3)), jI (SL.2 (7 * k + 2)), jI (SL.2 (7 * k + 1)), jR 0 0] h := by
    intro c hc1 hc2
    refine rule (Nat.beq 405) 60 n 350 _ _ _ (by omega) ?_
    refine And.intro hn (jx_MWR_mono (M_blot (c := c) hR) (fun k1 h1 hq => ?_))
    refine Exists.intro (7 * k + 1) (And.intro (And.intro (by omega) (nI_add _ _)) ?_)
    refine Exists.intro (7 * k + 2) (And.intro (And.intro (by omega) (nI_add _ _)) ?_)
    refine Exists.intro (7 * k + 3) (And.intro (And.intro (by omega) (nI_add _ _)) ?_)
    refine Exists.intro (7 * k + 4) (And.intro (And.intro (by omega) (nI_add _ _)) ?_)
    refine Exists.intro (7 * k + 5) (And.intro (And.intro (by omega) (nI_add _ _)) ?_)
    refine Exists.intro (7 * k + 6) (And.intro (And.intro (by omega) (nI_add _ _)) ?_)
    have fin : jx_MW 64 [jR 20 0, jI (SL.2 (7 * k + 1)), jI (SL.2 (7 * k + 2)), jI (SL.2 (7 * k + 3)), jI (SL.2 (7 * k + 4)), jI (SL.2 (7 * k + 5)), jI (nI c.toNat)] h1 (fun r2 h2 => V (n + 1) 405 [some (jR 34 0), some (jR 0 0), some (jR 20 0), some (jR 33 0), some (jI (nI (7 * k))), some (jI k1), o6] [jI r2] h2) := by
      rcases hq with ⟨rfl, f9, hq⟩ | ⟨t, t0, t3, rfl, hq⟩
      · refine jx_cal hq rfl (fun r2 h2 hq2 => ?_)
        obtain ⟨e1, rfl, e3, e4⟩ := hq2
        exact tail (nI 0) _ h2 (Or.inl ⟨rfl, e1, by rw [e3]⟩) e4 _
      · refine jx_cal hq rfl (fun r2 h2 hq2 => ?_)
        obtain ⟨e1, e4⟩ := hq2
        exact tail (nI t) _ h2 (Or.inr ⟨t, t0, t3, rfl, e1⟩) e4 _
    refine br_c (fun z => ?_) (fun z => ?_)
    · cases c with
      | true => exact absurd z (hc1 rfl)
      | false => exact jx_cal fin rfl (fun _ _ q => q)
    · cases c with
      | true => exact jx_cal fin rfl (fun _ _ q => q)
      | false => exact absurd (hc2 rfl) z
  refine rule (Nat.beq 350) 60 n 304 _ _ _ (by omega) ?_
  refine Exists.intro (7 * k + 1) (And.intro (And.intro (by omega) (nI_add _ _)) ?_)
  refine Exists.intro (7 * k + 2) (And.intro (And.intro (by omega) (nI_add _ _)) ?_)
  refine Exists.intro (7 * k + 3) (And.intro (And.intro (by omega) (nI_add _ _)) ?_)
  refine Exists.intro (7 * k + 4) (And.intro (And.intro (by omega) (nI_add _ _)) ?_)
  refine Exists.intro (7 * k + 5) (And.intro (And.intro (by omega) (nI_add _ _)) ?_)
  refine Exists.intro (7 * k + 6) (And.intro (And.intro (by omega) (nI_add _ _)) ?_)
  refine br_c (fun z => ?_) (fun z => ?_)
  · exact mid false (fun q => by cases q) (fun _ => z)
  · exact mid true (fun _ => z) (fun q => by cases q)
theorem C_flip (rule : ∀ (cut : Nat → Bool) (f n pc : Nat) (ls : jxL) (st : List jxV) (h : jxH), n ≤ 600 → jl_blk SL cut V f n pc ls st h → V n pc ls st h) (hk : 7 * k + 7 ≤ SL.1) (hn : n < 600) (hR : REL h) (nxt : ∀ (n' : Nat) (o5 o6 : Option jxV) (h' : jxH), n' ≤ n + 1 → REL h' → V n' 748 [some (jR 34 0), some (jR 0 0), some (jR 20 0), some (jR 33 0), some (jI (nI (7 * k))), o5, o6] [] h') : V n 438 [some (jR 34 0), some (jR 0 0), some (jR 20 0), some (jR 33 0), some (jI (nI (7 * k))), o5, o6] [] h := by
  refine rule (Nat.beq 748) 80 n 438 _ _ _ (by omega) ?_
  refine Exists.intro (7 * k + 1) (And.intro (And.intro (by omega) (nI_add _ _)) ?_)
  refine Exists.intro (7 * k + 2) (And.intro (And.intro (by omega) (nI_add _ _)) ?_)
  refine Exists.intro (7 * k + 3) (And.intro (And.intro (by omega) (nI_add _ _)) ?_)
  refine And.intro hn (jx_MWR_mono (M_flip hR) (fun k1 h1 hq => ?_))
  refine Exists.intro (7 * k + 1) (And.intro (And.intro (by omega) (nI_add _ _)) ?_)
  refine Exists.intro (7 * k + 2) (And.intro (And.intro (by omega) (nI_add _ _)) ?_)
  refine Exists.intro (7 * k + 3) (And.intro (And.intro (by omega) (nI_add _ _)) ?_)
  obtain ⟨t, t3, rfl, hq⟩ := hq
  refine jx_cal hq rfl (fun r2 h2 hq2 => ?_)
  obtain ⟨e1, e4⟩ := hq2
  refine jx_cal S_M_thrown rfl (fun r3 h3 hq => ?_)
  obtain ⟨rfl, rfl⟩ := hq
  refine br_c (fun _ => ?_) (fun q => absurd e1 q)
  exact nxt (n + 1) _ _ _ (Nat.le_refl _) e4
theorem C_wipe (rule : ∀ (cut : Nat → Bool) (f n pc : Nat) (ls : jxL) (st : List jxV) (h : jxH), n ≤ 600 → jl_blk SL cut V f n pc ls st h → V n pc ls st h) (hk : 7 * k + 7 ≤ SL.1) (hn : n < 600) (hR : REL h) (nxt : ∀ (n' : Nat) (o5 o6 : Option jxV) (h' : jxH), n' ≤ n + 1 → REL h' → V n' 748 [some (jR 34 0), some (jR 0 0), some (jR 20 0), some (jR 33 0), some (jI (nI (7 * k))), o5, o6] [] h') : V n 160 [some (jR 34 0), some (jR 0 0), some (jR 20 0), some (jR 33 0), some (jI (nI (7 * k))), o5, o6] [] h := by
  refine rule (Nat.beq 748) 40 n 160 _ _ _ (by omega) ?_
  refine jx_cal S_V_wipe rfl (fun r2 h2 hq2 => ?_)
  obtain ⟨rfl, rfl⟩ := hq2
  refine jx_cal (Q_wipe hR) rfl (fun r2 h2 hq2 => ?_)
  obtain ⟨e1, e2, e3, e4⟩ := hq2
  refine br_c (fun _ => ?_) (fun q => absurd e2.symm q)
  exact nxt n _ _ _ (Nat.le_succ _) e4
theorem C_missing (rule : ∀ (cut : Nat → Bool) (f n pc : Nat) (ls : jxL) (st : List jxV) (h : jxH), n ≤ 600 → jl_blk SL cut V f n pc ls st h → V n pc ls st h) (hk : 7 * k + 7 ≤ SL.1) (hn : n < 600) (hR : REL h) (nxt : ∀ (n' : Nat) (o5 o6 : Option jxV) (h' : jxH), n' ≤ n + 1 → REL h' → V n' 748 [some (jR 34 0), some (jR 0 0), some (jR 20 0), some (jR 33 0), some (jI (nI (7 * k))), o5, o6] [] h') : V n 622 [some (jR 34 0), some (jR 0 0), some (jR 20 0), some (jR 33 0), some (jI (nI (7 * k))), o5, o6] [] h := by
  obtain ⟨r, q1, q2⟩ := Q_missing hR
  refine rule (Nat.beq 748) 40 n 622 _ _ _ (by omega) ?_
  refine jx_cal q1 rfl (fun r2 h2 hq2 => ?_)
  obtain ⟨rfl, rfl⟩ := hq2
  refine jx_cal q2 rfl (fun r2 h2 hq2 => ?_)
  obtain ⟨e1, e2, e3, e4⟩ := hq2
  refine br_c (fun _ => ?_) (fun q => absurd e2.symm q)
  exact nxt n _ _ _ (Nat.le_succ _) e4
theorem C_reset (rule : ∀ (cut : Nat → Bool) (f n pc : Nat) (ls : jxL) (st : List jxV) (h : jxH), n ≤ 600 → jl_blk SL cut V f n pc ls st h → V n pc ls st h) (hk : 7 * k + 7 ≤ SL.1) (hn : n < 600) (hR : REL h) (nxt : ∀ (n' : Nat) (o5 o6 : Option jxV) (h' : jxH), n' ≤ n + 1 → REL h' → V n' 748 [some (jR 34 0), some (jR 0 0), some (jR 20 0), some (jR 33 0), some (jI (nI (7 * k))), o5, o6] [] h') : V n 735 [some (jR 34 0), some (jR 0 0), some (jR 20 0), some (jR 33 0), some (jI (nI (7 * k))), o5, o6] [] h := by
  refine rule (Nat.beq 748) 40 n 735 _ _ _ (by omega) ?_
  refine jx_cal (Q_reset hR) rfl (fun r2 h2 hq2 => ?_)
  refine jx_cal hq2 rfl (fun r3 h3 hq3 => ?_)
  obtain ⟨e1, e2, e3, e4⟩ := hq3
  refine br_c (fun _ => ?_) (fun q => absurd e2.symm q)
  exact nxt n _ _ _ (Nat.le_succ _) e4
end LC
def lc_cut (pc : Nat) : Bool := [104, 160, 173, 217, 304, 438, 498, 566, 622, 635, 679, 735, 748, 754].any (Nat.beq pc)
theorem jl_sub {a k : Nat} (ha : a ≤ 3584) (hk : k ≤ 512) : nI a - nI 7 < nI (7 * k) ↔ a < 7 * k + 7 := by
  rw [Int32.lt_iff_toInt_lt, pk_sub_toInt (a := a) (b := 7) (by omega) (by decide), nI_toInt (by omega)]
  omega
theorem jl_loop {SL : Nat × (Nat → Int32)} {V : Nat → Nat → jxL → List jxV → jxH → Prop} (rule : ∀ (cut : Nat → Bool) (f n pc : Nat) (ls : jxL) (st : List jxV) (h : jxH), n ≤ 600 → jl_blk SL cut V f n pc ls st h → V n pc ls st h) (hL : SL.1 ≤ 3584) (fin : ∀ (n : Nat) (ls : jxL) (h : jxH), n ≤ 512 → ls.length = 7 → V n 754 ls [] h) : ∀ k, k ≤ 512 → ∀ (n : Nat) (o5 o6 : Option jxV) (h : jxH), n ≤ k → REL h → V n 23 [some (jR 34 0), some (jR 0 0), some (jR 20 0), some (jR 33 0), some (jI (nI (7 * k))), o5, o6] [] h := by
  refine jl_up 512 ?_ ?_
  · intro n o5 o6 h hn hR
    refine rule lc_cut 20 n 23 _ _ _ (by omega) ?_
    refine br_c (fun _ => ?_) (fun q => absurd ?_ q)
    · exact fin n _ h hn rfl
    · exact (jl_sub hL (Nat.le_refl _)).mpr (by omega)
  · intro k hk9 ih n o5 o6 h hn hR
    have step : ∀ (n' : Nat) (o5 o6 : Option jxV) (h' : jxH), n' ≤ n + 1 → REL h' → V n' 748 [some (jR 34 0), some (jR 0 0), some (jR 20 0), some (jR 33 0), some (jI (nI (7 * k))), o5, o6] [] h' := by
      intro n' o5 o6 h' hn' hR'
      refine rule (Nat.beq 23) 20 n' 748 _ _ _ (by omega) ?_
      exact jv_to (V := V n') (ih n' o5 o6 h' (by omega) hR') (by rw [nI_add, show 7 * k + 7 = 7 * (k + 1) by omega]) rfl rfl
    refine rule lc_cut 20 n 23 _ _ _ (by omega) ?_
    refine br_c (fun _ => ?_) (fun q => ?_)
    · exact fin n _ h (by omega) rfl
    have hk : 7 * k + 7 ≤ SL.1 := Nat.not_lt.mp (fun z => q ((jl_sub hL (by omega)).mpr z))
    refine Exists.intro (7 * k) (And.intro (And.intro (by omega) rfl) ?_)
    refine And.intro (fun _ => ?_) (fun _ => ?_)
    · exact C_load rule hk (by omega) hR step
    refine And.intro (fun _ => ?_) (fun _ => ?_)
    · exact C_wipe rule hk (by omega) hR step
    refine And.intro (fun _ => ?_) (fun _ => ?_)
    · exact C_print rule hk (by omega) hR step
    refine And.intro (fun _ => ?_) (fun _ => ?_)
    · exact C_dot rule hk (by omega) hR step
    refine And.intro (fun _ => ?_) (fun _ => ?_)
    · exact C_blot rule hk (by omega) hR step
    refine And.intro (fun _ => ?_) (fun _ => ?_)
    · exact C_flip rule hk (by omega) hR step
    refine And.intro (fun _ => ?_) (fun _ => ?_)
    · exact C_feed rule hk (by omega) hR step
    refine And.intro (fun _ => ?_) (fun _ => ?_)
    · exact C_errors rule hk (by omega) hR step
    refine And.intro (fun _ => ?_) (fun _ => ?_)
    · exact C_missing rule hk (by omega) hR step
    refine And.intro (fun _ => ?_) (fun _ => ?_)
    · exact C_rebuild rule hk (by omega) hR step
    refine And.intro (fun _ => ?_) (fun _ => ?_)
    · exact C_out rule hk (by omega) hR step
    refine And.intro (fun _ => ?_) (fun _ => ?_)
    · exact C_reset rule hk (by omega) hR step
    exact step n o5 o6 h (by omega) hR
