/-! Reader: putting together, forgetting, keeping. -/
/-- the column m, whole again -/
def col (b : Nat → Bool) (pl : Nat → Nat → Nat) (nd m : Nat) : Nat → Nat := rst (fc b pl m) nd (nl b nd 0) (nl b nd (nl b nd 0 + 1)) b
theorem S_Rd_putTogether {nd : Nat} {b : Nat → Bool} {pl : Nat → Nat → Nat} {h : jxH} (hn : h 14 0 3 = nI nd) (hb : BA (h 17 0) 6 b) (hp : ∀ p, p < 6 → AR (h 16 p) 40 16 (pl p)) (hn4 : nd ≤ 4) : jx_MW 104 [jR 14 0] h (fun q h' => q = h 14 0 4 ∧ ∃ c r, h' = jx_st (jx_st (jx_st h 10 1 c) 18 0 r) 14 0 (upd (h 14 0) 6 (h 14 0 4)) ∧ ∀ k, k < 80 → k / 20 < nd → r k = nI (col b pl nd (2 * (k % 20)) (k / 20)) + nI 16 * nI (col b pl nd (2 * (k % 20) + 1) (k / 20))) := by
  refine jx_MW_by [some (jR 14 0), none, none, none] (by decide) rfl (Nat.le_of_ble_eq_true rfl) (fun V rule => ?_)
  have h1 := nl_le b nd 0
  have h2 := nl_le b nd (nl b nd 0 + 1)
  have loop := jl_up (P := fun m => ∀ c r : Nat → Int32, (∀ k, k < 80 → k / 20 < nd → (2 * (k % 20) + 1 < m → r k = nI (col b pl nd (2 * (k % 20)) (k / 20)) + nI 16 * nI (col b pl nd (2 * (k % 20) + 1) (k / 20))) ∧ (m = 2 * (k % 20) + 1 → r k = nI (col b pl nd (2 * (k % 20)) (k / 20)))) → V 16 [some (jR 14 0), some (jI (nI (nl b nd 0))), some (jI (nI (nl b nd (nl b nd 0 + 1)))), some (jI (nI m))] [] (jx_st (jx_st h 10 1 c) 18 0 r)) 40
    (by
      intro c r hr
      refine rule (fun _ => false) 20 16 _ _ _ ?_
      refine pk_le 40 40 (fun _ => ?_) (fun q => absurd q (Nat.lt_irrefl _))
      exact And.intro rfl (Exists.intro c (Exists.intro r (And.intro rfl (fun k hk hkn => (hr k hk hkn).1 (by omega))))))
    (fun m hm ih => by
      intro c r hr
      refine rule (Nat.beq 16) 30 16 _ _ _ ?_
      refine pk_le 40 m (fun q => absurd q (by omega)) (fun _ => ?_)
      have hb' : BA (jx_st (jx_st h 10 1 c) 18 0 r 17 0) 6 b := hb
      refine jx_cal (S_Rd_fillColumn (pl := pl) (m := m) hb' hp hm) rfl (fun q h3 hq => ?_)
      obtain ⟨c1, rfl, hc1⟩ := hq
      rw [jx_sc (show 18 ≠ 10 by decide), jx_st_st]
      have hc1' : AR (jx_st (jx_st h 10 1 c1) 18 0 r 10 1) 6 16 (fc b pl m) := hc1
      have hb1 : BA (jx_st (jx_st h 10 1 c1) 18 0 r 17 0) 6 b := hb
      have hn1 : jx_st (jx_st h 10 1 c1) 18 0 r 14 0 3 = nI nd := hn
      refine jx_cal (S_Rd_restoreLost hn1 hb1 hc1' hn4 h1 h2) rfl (fun q h3 hq => ?_)
      obtain ⟨c2, rfl, hc2⟩ := hq
      rw [jx_sc (show 18 ≠ 10 by decide), jx_st_st]
      have hc2' : AR (jx_st (jx_st h 10 1 c2) 18 0 r 10 1) 6 16 (col b pl nd m) := hc2
      have hn2 : jx_st (jx_st h 10 1 c2) 18 0 r 14 0 3 = nI nd := hn
      refine jx_cal (S_Rd_storeSymbols hn2 hc2' hn4 hm) rfl (fun q h3 hq => ?_)
      obtain ⟨r2, rfl, hr2⟩ := hq
      rw [jx_st_st]
      refine jv_to (V := V) (ih c2 r2 (fun k hk hkn => ?_)) (by rw [nI_add]) rfl rfl
      have e2 := hr2 k hk
      have e3 : jx_st (jx_st h 10 1 c2) 18 0 r 18 0 k = r k := rfl
      rw [e3] at e2
      obtain ⟨g1, g2⟩ := hr k hk hkn
      refine ⟨fun z => ?_, fun z => ?_⟩
      · by_cases hm1 : m = 2 * (k % 20) + 1
        · rw [e2, if_pos ⟨hkn, by omega⟩, if_neg (by omega), g2 hm1, ← hm1]
        · rw [e2, if_neg (by omega)]
          exact g1 (by omega)
      · rw [e2, if_pos ⟨hkn, by omega⟩, if_pos (by omega), show m = 2 * (k % 20) by omega])
  refine rule (Nat.beq 16) 20 0 _ _ _ ?_
  refine jx_cal (S_Rd_nextLost (a := 0) hn hb hn4 (by decide)) rfl (fun q h3 hq => ?_)
  obtain ⟨rfl, rfl⟩ := hq
  refine jx_cal (S_Rd_nextLost (a := nl b nd 0 + 1) hn hb hn4 (by omega)) (by rw [nI_add]) (fun q h3 hq => ?_)
  obtain ⟨rfl, rfl⟩ := hq
  exact jv_to (V := V) (loop 0 (Nat.zero_le _) (h3 10 1) (h3 18 0) (fun k hk hkn => ⟨fun z => absurd z (Nat.not_lt_zero _), fun z => by omega⟩)) rfl rfl (by rw [jx_st_id, jx_st_id])
theorem S_Rd_forget {h : jxH} : jx_MW 20 [jR 14 0] h (fun r h' => r = h 14 0 2 ∧ ∃ f, h' = jx_st (jx_st h 14 0 (upd (upd (h 14 0) 2 (nI 0)) 6 (nI 0))) 17 0 f ∧ BA f 6 (fun _ => false)) := by
  refine jx_MW_by [some (jR 14 0), none, none] (by decide) rfl (Nat.le_of_ble_eq_true rfl) (fun V rule => ?_)
  have loop := jl_up (P := fun i => ∀ f : Nat → Int32, (∀ k, k < i → f k = nI 0) → V 12 [some (jR 14 0), some (jI (h 14 0 2)), some (jI (nI i))] [] (jx_st (jx_st h 14 0 (upd (h 14 0) 2 (nI 0))) 17 0 f)) 6
    (by
      intro f hf
      refine rule (fun _ => false) 20 12 _ _ _ ?_
      refine pk_le 6 6 (fun _ => ?_) (fun q => absurd q (Nat.lt_irrefl _))
      refine And.intro rfl (Exists.intro f (And.intro ?_ (fun k hk => hf k hk)))
      rw [jx_sc (show 17 ≠ 14 by decide), jx_st_st]
      rfl)
    (fun i hi ih => by
      intro f hf
      refine rule (Nat.beq 12) 20 12 _ _ _ ?_
      refine pk_le 6 i (fun q => absurd q (by omega)) (fun _ => ?_)
      refine Exists.intro i (And.intro (And.intro hi (And.intro rfl (Or.inl rfl))) ?_)
      refine jv_to (V := V) (ih (upd f i (nI 0)) (fun k hk => ?_)) (by rw [nI_add]) rfl (by rw [jx_st_same, jx_st_st])
      by_cases hki : k = i
      · subst hki; exact upd_same _ _ _
      · rw [upd_ne _ _ hki]; exact hf k (by omega))
  refine rule (Nat.beq 12) 20 0 _ _ _ ?_
  exact jv_to (V := V) (loop 0 (Nat.zero_le _) (h 17 0) (fun k hk => absurd hk (Nat.not_lt_zero _))) rfl rfl (jx_st_id (jx_st h 14 0 (upd (h 14 0) 2 (nI 0))) 17 0).symm
/-- the heap behind store -/
def hst (h : jxH) (n : Nat) (f : Nat → Int32) : jxH := jx_st (jx_st (jx_st h 16 n f) 17 0 (upd (h 17 0) n (nI 1))) 14 0 (upd (h 14 0) 2 (h 14 0 2 + nI 1))
theorem S_Rd_store {d : Nat → Nat} {h : jxH} (hd : AR (h 12 0) 44 16 d) (h0 : d 0 < 6) : jx_MW 62 [jR 14 0, jR 11 0] h (fun _ h' => ∃ f, h' = hst h (d 0) f ∧ AR f 40 16 (fun m => d (4 + m))) := by
  refine jx_MW_by [some (jR 14 0), some (jR 11 0), none, none] (by decide) rfl (Nat.le_of_ble_eq_true rfl) (fun V rule => ?_)
  have loop := jl_up (P := fun i => ∀ f : Nat → Int32, (∀ k, k < i → f k = nI (d (4 + k))) → V 7 [some (jR 14 0), some (jR 11 0), some (jI (nI (d 0))), some (jI (nI i))] [] (jx_st h 16 (d 0) f)) 40
    (by
      intro f hf
      refine rule (fun _ => false) 30 7 _ _ _ ?_
      refine pk_le 40 40 (fun _ => ?_) (fun q => absurd q (Nat.lt_irrefl _))
      refine Exists.intro (d 0) (And.intro (And.intro h0 (And.intro rfl (Or.inr rfl))) ?_)
      exact Exists.intro f (And.intro rfl (fun k hk => ⟨hf k hk, hd.lt (by omega)⟩)))
    (fun i hi ih => by
      intro f hf
      refine rule (Nat.beq 7) 30 7 _ _ _ ?_
      refine pk_le 40 i (fun q => absurd q (by omega)) (fun _ => ?_)
      refine Exists.intro (d 0) (And.intro (And.intro h0 rfl) ?_)
      have hd' : AR (jx_st h 16 (d 0) f 12 0) 44 16 d := hd
      refine jx_cal (S_Scan_payload hd' hi) rfl (fun q h2 hq => ?_)
      obtain ⟨rfl, rfl⟩ := hq
      refine Exists.intro i (And.intro (And.intro hi rfl) ?_)
      refine jv_to (V := V) (ih (upd f i (nI (d (4 + i)))) (fun k hk => ?_)) (by rw [nI_add]) rfl (by rw [jx_st_same, jx_st_st])
      by_cases hki : k = i
      · subst hki; exact upd_same _ _ _
      · rw [upd_ne _ _ hki]; exact hf k (by omega))
  refine rule (Nat.beq 7) 20 0 _ _ _ ?_
  refine jx_cal (S_Scan_number hd) rfl (fun q h2 hq => ?_)
  obtain ⟨rfl, rfl⟩ := hq
  exact jv_to (V := V) (loop 0 (Nat.zero_le _) (h2 16 (d 0)) (fun k hk => absurd hk (Nat.not_lt_zero _))) rfl rfl (jx_st_id h2 16 (d 0)).symm
/-- the heap where the first page's numbers are taken over -/
def htk (h : jxH) (kp : Nat) (d : Nat → Nat) : jxH := if kp = 0 then jx_st h 14 0 (upd (upd (h 14 0) 3 (nI (d 1))) 4 (nI (d 2 + 16 * d 3))) else h
theorem S_Rd_keep {kp nd ln : Nat} {d : Nat → Nat} {b : Nat → Bool} {h : jxH} (hk : h 14 0 2 = nI kp) (hn : h 14 0 3 = nI nd) (hl : h 14 0 4 = nI ln) (hb : BA (h 17 0) 6 b) (hd : AR (h 12 0) 44 16 d) (h0 : d 0 < 6) (hk9 : kp < 100) (hn9 : nd < 1000) (hl9 : ln < 1000) : jx_MW 88 [jR 14 0, jR 11 0] h (fun r h' =>
    (¬ kp = 0 ∧ ¬ (d 1 = nd ∧ d 2 + 16 * d 3 = ln) ∧ r = nI 0 ∧ h' = h) ∨
    ((kp = 0 ∨ (d 1 = nd ∧ d 2 + 16 * d 3 = ln)) ∧ r = nI 1 ∧ (b (d 0) = true → h' = htk h kp d) ∧ (b (d 0) = false → ∃ f, h' = hst (htk h kp d) (d 0) f ∧ AR f 40 16 (fun m => d (4 + m))))) := by
  refine jx_MW_by [some (jR 14 0), some (jR 11 0)] (by decide) rfl (Nat.le_of_ble_eq_true rfl) (fun V rule => ?_)
  have l1 := hd.lt (show 1 < 44 by decide)
  have l2 := hd.lt (show 2 < 44 by decide)
  have l3 := hd.lt (show 3 < 44 by decide)
  have tail : ∀ (h1 : jxH), h1 = htk h kp d → (kp = 0 ∨ (d 1 = nd ∧ d 2 + 16 * d 3 = ln)) → BA (h1 17 0) 6 b → AR (h1 12 0) 44 16 d → V 47 [some (jR 14 0), some (jR 11 0)] [] h1 := by
    intro h1 e1 hc hb1 hd1
    refine rule (fun _ => false) 30 47 _ _ _ ?_
    refine jx_cal (S_Scan_number hd1) rfl (fun q h2 hq => ?_)
    obtain ⟨rfl, rfl⟩ := hq
    refine Exists.intro (d 0) (And.intro (And.intro h0 rfl) ?_)
    refine pk_eq (b (d 0)).toNat 0 (fun q => ?_) (fun q => ?_) (hb1 (d 0) h0) rfl (by have := toNat_le (b (d 0)); omega) (by decide)
    · refine jx_cal (S_Rd_store hd1 h0) rfl (fun q2 h3 hq => ?_)
      obtain ⟨f, rfl, hf⟩ := hq
      refine And.intro (Or.inr rfl) (Or.inr (And.intro hc (And.intro rfl (And.intro (fun z => ?_) (fun _ => ?_)))))
      · rw [tn0 q] at z; cases z
      · exact Exists.intro f (And.intro (by rw [e1]) hf)
    · refine And.intro (Or.inr rfl) (Or.inr (And.intro hc (And.intro rfl (And.intro (fun _ => e1) (fun z => ?_)))))
      rw [tn1 q] at z; cases z
  refine rule (Nat.beq 47) 60 0 _ _ _ ?_
  refine pk_eq kp 0 (fun q => ?_) (fun q => ?_) hk rfl
  · refine jx_cal (S_Scan_needed hd) rfl (fun r h2 hq => ?_)
    obtain ⟨rfl, rfl⟩ := hq
    have hd1 : AR (jx_st h2 14 0 (upd (h2 14 0) 3 (nI (d 1))) 12 0) 44 16 d := hd
    refine jx_cal (S_Scan_length hd1) rfl (fun r h3 hq => ?_)
    obtain ⟨rfl, rfl⟩ := hq
    have hd2 : AR (jx_st (jx_st h2 14 0 (upd (h2 14 0) 3 (nI (d 1)))) 14 0 (upd (jx_st h2 14 0 (upd (h2 14 0) 3 (nI (d 1))) 14 0) 4 (nI (d 2 + 16 * d 3))) 12 0) 44 16 d := hd
    refine jx_cal (S_Scan_needed hd2) rfl (fun r h3 hq => ?_)
    obtain ⟨rfl, rfl⟩ := hq
    refine pk_eq (d 1) (d 1) (fun _ => ?_) (fun z => absurd rfl z) rfl rfl
    refine jx_cal (S_Scan_length hd2) rfl (fun r h3 hq => ?_)
    obtain ⟨rfl, rfl⟩ := hq
    refine pk_eq (d 2 + 16 * d 3) (d 2 + 16 * d 3) (fun _ => ?_) (fun z => absurd rfl z) rfl rfl
    exact tail _ (by rw [htk, if_pos q, jx_st_same, jx_st_st]) (Or.inl q) hb hd2
  · refine jx_cal (S_Scan_needed hd) rfl (fun r h3 hq => ?_)
    obtain ⟨rfl, rfl⟩ := hq
    refine pk_eq (d 1) nd (fun q1 => ?_) (fun q1 => ?_) rfl hn
    · refine jx_cal (S_Scan_length hd) rfl (fun r h4 hq => ?_)
      obtain ⟨rfl, rfl⟩ := hq
      refine pk_eq (d 2 + 16 * d 3) ln (fun q2 => ?_) (fun q2 => ?_) rfl hl
      · exact tail _ (by rw [htk, if_neg q]) (Or.inr ⟨q1, q2⟩) hb hd
      · exact And.intro (Or.inl rfl) (Or.inl (And.intro q (And.intro (fun z => q2 z.2) (And.intro rfl rfl))))
    · exact And.intro (Or.inl rfl) (Or.inl (And.intro q (And.intro (fun z => q1 z.1) (And.intro rfl rfl))))
