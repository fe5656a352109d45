/-! Reader. -/
def BA (f : Nat → Int32) (n : Nat) (b : Nat → Bool) : Prop := ∀ k, k < n → f k = nI (b k).toNat
def bup (b : Nat → Bool) (k : Nat) (v : Bool) : Nat → Bool := fun j => if j = k then v else b j
theorem BA.put {f : Nat → Int32} {n : Nat} {b : Nat → Bool} (h : BA f n b) {k : Nat} (v : Bool) : BA (upd f k (nI v.toNat)) n (bup b k v) := by
  intro j hj
  by_cases hjk : j = k
  · subst hjk
    rw [upd_same]
    simp [bup]
  · rw [upd_ne _ _ hjk, h j hj]
    simp [bup, hjk]
theorem BA.st {f : Nat → Int32} {n : Nat} {b : Nat → Bool} (h : jxH) (k p : Nat) (hf : BA f n b) : BA (jx_st h k p f k p) n b := by
  rw [jx_st_same]
  exact hf
theorem tn0 {b : Bool} (h : b.toNat = 0) : b = false := by cases b <;> simp_all
theorem tn1 {b : Bool} (h : ¬ b.toNat = 0) : b = true := by cases b <;> simp_all
theorem S_Rd_rebuiltLength {h : jxH} : jx_MW 25 [jR 14 0] h (fun r h' => r = h 14 0 6 ∧ h' = h) := by
  refine jx_MW_by [some (jR 14 0)] (by decide) rfl (Nat.le_of_ble_eq_true rfl) (fun V rule => ?_)
  refine rule (fun _ => false) 10 0 _ _ _ ?_
  exact And.intro rfl rfl
theorem S_Rd_rebuiltByte {i : Nat} {h : jxH} (hi : i < 80) : jx_MW 24 [jR 14 0, jI (nI i)] h (fun r h' => r = h 18 0 i ∧ h' = h) := by
  refine jx_MW_by [some (jR 14 0), some (jI (nI i))] (by decide) rfl (Nat.le_of_ble_eq_true rfl) (fun V rule => ?_)
  refine rule (fun _ => false) 10 0 _ _ _ ?_
  refine Exists.intro i (And.intro (And.intro hi rfl) ?_)
  exact And.intro rfl rfl
theorem S_Rd_lacking {kp : Nat} {h : jxH} (hk : h 14 0 2 = nI kp) (hk9 : kp < 100) : jx_MW 22 [jR 14 0] h (fun r h' => r = (if kp = 0 then -nI 1 else h 14 0 3 + nI 2 - nI kp) ∧ h' = h) := by
  refine jx_MW_by [some (jR 14 0)] (by decide) rfl (Nat.le_of_ble_eq_true rfl) (fun V rule => ?_)
  refine rule (fun _ => false) 20 0 _ _ _ ?_
  refine pk_eq kp 0 (fun q => ?_) (fun q => ?_) hk rfl
  · exact And.intro (by rw [if_pos q]) rfl
  · exact And.intro (by rw [if_neg q, hk]) rfl
theorem S_Rd_hasEnough {kp nd : Nat} {h : jxH} (hk : h 14 0 2 = nI kp) (hn : h 14 0 3 = nI nd) (hk9 : kp < 100) (hn9 : nd < 100) : jx_MW 21 [jR 14 0] h (fun r h' => r = nI (decide (0 < kp ∧ nd ≤ kp)).toNat ∧ h' = h) := by
  refine jx_MW_by [some (jR 14 0)] (by decide) rfl (Nat.le_of_ble_eq_true rfl) (fun V rule => ?_)
  refine rule (fun _ => false) 20 0 _ _ _ ?_
  refine pk_le kp 0 (fun q => ?_) (fun q => ?_) hk rfl
  · exact And.intro (Or.inl rfl) (And.intro (by simp [show ¬ 0 < kp by omega]) rfl)
  · refine pk_lt kp nd (fun q1 => ?_) (fun q1 => ?_) hk hn
    · exact And.intro (Or.inl rfl) (And.intro (by simp [show ¬ nd ≤ kp by omega]) rfl)
    · exact And.intro (Or.inr rfl) (And.intro (by simp [q, q1]) rfl)
def nl (b : Nat → Bool) (nd a : Nat) : Nat := (fst (fun k => !b k) a (nd - a)).getD nd
theorem nl_le (b : Nat → Bool) (nd a : Nat) : nl b nd a ≤ nd := by
  unfold nl
  cases h : fst (fun k => !b k) a (nd - a) with
  | none => exact Nat.le_refl _
  | some j =>
    obtain ⟨h1, h2, -⟩ := fst_lt h
    show j ≤ nd
    omega
theorem S_Rd_nextLost {nd a : Nat} {b : Nat → Bool} {h : jxH} (hn : h 14 0 3 = nI nd) (hb : BA (h 17 0) 6 b) (hn6 : nd ≤ 4) (ha : a ≤ 6) : jx_MW 23 [jR 14 0, jI (nI a)] h (fun r h' => r = nI (nl b nd a) ∧ h' = h) := by
  refine jx_MW_by [some (jR 14 0), some (jI (nI a)), none] (by decide) rfl (Nat.le_of_ble_eq_true rfl) (fun V rule => ?_)
  by_cases hna : nd ≤ a
  · refine rule (fun _ => false) 20 0 _ _ _ ?_
    refine pk_le nd a (fun _ => ?_) (fun q => absurd q (by omega)) hn rfl
    refine And.intro ?_ rfl
    rw [hn, nl, show nd - a = 0 by omega]
    rfl
  · have loop := jl_up (P := fun i => a ≤ i → (∀ k, a ≤ k → k < i → b k = true) → V 2 [some (jR 14 0), some (jI (nI a)), some (jI (nI i))] [] h) nd
      (by
        intro _ hk
        refine rule (fun _ => false) 20 2 _ _ _ ?_
        refine pk_le nd nd (fun _ => ?_) (fun q => absurd q (Nat.lt_irrefl _)) hn rfl
        refine And.intro ?_ rfl
        rw [hn, nl, fst_none (fun k h1 h2 => by rw [hk k h1 (by omega)]; rfl)]
        rfl)
      (fun i hi ih => by
        intro hai hk
        refine rule (Nat.beq 2) 20 2 _ _ _ ?_
        refine pk_le nd i (fun q => absurd q (by omega)) (fun _ => ?_) hn rfl
        refine Exists.intro i (And.intro (And.intro (by omega) rfl) ?_)
        refine pk_eq (b i).toNat 0 (fun q => ?_) (fun q => ?_) (hb i (by omega)) rfl (by have := toNat_le (b i); omega) (by decide)
        · refine And.intro ?_ rfl
          rw [nl, fst_some hai (by omega) (fun k h1 h2 => by rw [hk k h1 h2]; rfl) (by rw [tn0 q]; rfl)]
          rfl
        · refine jv_to (V := V) (ih (by omega) (fun k h1 h2 => ?_)) (by rw [nI_add]) rfl rfl
          by_cases hki : k = i
          · subst hki; exact tn1 q
          · exact hk k h1 (by omega))
    refine rule (Nat.beq 2) 10 0 _ _ _ ?_
    exact loop a (by omega) (Nat.le_refl _) (fun k h1 h2 => by omega)
/-- the column m, 0 where a page isn't kept -/
def fc (b : Nat → Bool) (pl : Nat → Nat → Nat) (m : Nat) : Nat → Nat := fun k => if b k = true then pl k m else 0
theorem S_Rd_fillColumn {m : Nat} {b : Nat → Bool} {pl : Nat → Nat → Nat} {h : jxH} (hb : BA (h 17 0) 6 b) (hp : ∀ p, p < 6 → AR (h 16 p) 40 16 (pl p)) (hm : m < 40) : jx_MW 61 [jR 14 0, jI (nI m)] h (fun _ h' => ∃ f, h' = jx_st h 10 1 f ∧ AR f 6 16 (fc b pl m)) := by
  refine jx_MW_by [some (jR 14 0), some (jI (nI m)), none] (by decide) rfl (Nat.le_of_ble_eq_true rfl) (fun V rule => ?_)
  have loop := jl_up (P := fun i => ∀ f : Nat → Int32, (∀ k, k < i → f k = nI (fc b pl m k) ∧ fc b pl m k < 16) → V 2 [some (jR 14 0), some (jI (nI m)), some (jI (nI i))] [] (jx_st h 10 1 f)) 6
    (by
      intro f hf
      refine rule (fun _ => false) 10 2 _ _ _ ?_
      refine pk_le 6 6 (fun _ => ?_) (fun q => absurd q (Nat.lt_irrefl _))
      exact Exists.intro f (And.intro rfl hf))
    (fun i hi ih => by
      intro f hf
      refine rule (Nat.beq 2) 40 2 _ _ _ ?_
      refine pk_le 6 i (fun q => absurd q (by omega)) (fun _ => ?_)
      refine Exists.intro i (And.intro (And.intro hi rfl) ?_)
      have fin : ∀ v, v = fc b pl m i → v < 16 → jx_MW 13 [jR 9 1, jI (nI i), jI (nI v)] (jx_st h 10 1 f) (fun _ h' => V 2 [some (jR 14 0), some (jI (nI m)), some (jI (nI i + nI 1))] [] h') := by
        intro v hv hv16
        refine jx_cal (S_Col_set hi) rfl (fun q h2 hq => ?_)
        subst hq
        refine jv_to (V := V) (ih (upd f i (nI v)) (fun k hk => ?_)) (by rw [nI_add]) rfl (by rw [jx_st_same, jx_st_st])
        by_cases hki : k = i
        · subst hki
          rw [upd_same, ← hv]
          exact ⟨rfl, hv16⟩
        · rw [upd_ne _ _ hki]
          exact hf k (by omega)
      refine pk_eq (b i).toNat 0 (fun q => ?_) (fun q => ?_) (hb i hi) rfl (by have := toNat_le (b i); omega) (by decide)
      · exact fin 0 (by rw [fc, tn0 q]; rfl) (by decide)
      · refine Exists.intro i (And.intro (And.intro hi rfl) ?_)
        refine Exists.intro m (And.intro (And.intro hm rfl) ?_)
        refine jx_cal (fin (pl i m) (by rw [fc, tn1 q]; rfl) ((hp i hi).lt hm)) ?_ (fun _ _ z => z)
        rw [show jx_st h 10 1 f 16 i m = h 16 i m from rfl, (hp i hi).at hm])
  refine rule (Nat.beq 2) 10 0 _ _ _ ?_
  exact jv_to (V := V) (loop 0 (Nat.zero_le _) (h 10 1) (fun k hk => absurd hk (Nat.not_lt_zero _))) rfl rfl (jx_st_id h 10 1).symm
/-- the column with its lost symbols brought back -/
def rst (s : Nat → Nat) (nd a c : Nat) (b : Nat → Bool) : Nat → Nat :=
  if c < nd then nup (nup s c (gf_s2 (s nd ^^^ xs s nd) (s (nd + 1) ^^^ xs (wt s) nd) (gf_pw a) (gf_pw c))) a ((s nd ^^^ xs s nd) ^^^ gf_s2 (s nd ^^^ xs s nd) (s (nd + 1) ^^^ xs (wt s) nd) (gf_pw a) (gf_pw c))
  else if a < nd then (if b nd = true then nup s a (s nd ^^^ xs s nd) else nup s a (gf_qt (s (nd + 1) ^^^ xs (wt s) nd) (gf_pw a)))
  else s
theorem S_Rd_restoreLost {nd a c : Nat} {s : Nat → Nat} {b : Nat → Bool} {h : jxH} (hn : h 14 0 3 = nI nd) (hb : BA (h 17 0) 6 b) (hs : AR (h 10 1) 6 16 s) (hn4 : nd ≤ 4) (ha : a ≤ nd) (hc : c ≤ nd) : jx_MW 98 [jR 14 0, jI (nI a), jI (nI c)] h (fun _ h' => ∃ f, h' = jx_st h 10 1 f ∧ AR f 6 16 (rst s nd a c b)) := by
  refine jx_MW_by [some (jR 14 0), some (jI (nI a)), some (jI (nI c))] (by decide) rfl (Nat.le_of_ble_eq_true rfl) (fun V rule => ?_)
  refine rule (fun _ => false) 40 0 _ _ _ ?_
  refine pk_le nd c (fun q1 => ?_) (fun q1 => ?_) hn rfl
  · refine pk_le nd a (fun q2 => ?_) (fun q2 => ?_) hn rfl
    · refine pk_le nd a (fun _ => ?_) (fun q => absurd q (by omega)) hn rfl
      refine Exists.intro (h 10 1) (And.intro (jx_st_id h 10 1).symm ?_)
      rw [rst, if_neg (by omega), if_neg (by omega)]
      exact hs
    · refine Exists.intro nd (And.intro (And.intro (by omega) hn) ?_)
      refine pk_eq (b nd).toNat 0 (fun q => ?_) (fun q => ?_) (hb nd (by omega)) rfl (by have := toNat_le (b nd); omega) (by decide)
      · refine pk_le nd a (fun q9 => absurd q9 (by omega)) (fun _ => ?_) hn rfl
        refine jx_cal (S_Col_restoreByWeighted (n := nd) (l := a) hs hn4 (by omega)) (by rw [hn]) (fun r h2 hq => ?_)
        obtain ⟨f, rfl, hf⟩ := hq
        refine Exists.intro f (And.intro rfl ?_)
        rw [rst, if_neg (by omega), if_pos q2, if_neg (by rw [tn0 q]; decide)]
        exact hf
      · refine jx_cal (S_Col_restoreByPlain (n := nd) (l := a) hs hn4 (by omega)) (by rw [hn]) (fun r h2 hq => ?_)
        obtain ⟨f, rfl, hf⟩ := hq
        refine Exists.intro f (And.intro rfl ?_)
        rw [rst, if_neg (by omega), if_pos q2, if_pos (tn1 q)]
        exact hf
  · refine jx_cal (S_Col_restoreTwo (n := nd) (a := a) (b := c) hs hn4 (by omega) (by omega)) (by rw [hn]) (fun r h2 hq => ?_)
    obtain ⟨f, rfl, hf⟩ := hq
    refine Exists.intro f (And.intro rfl ?_)
    rw [rst, if_pos q1]
    exact hf
theorem S_Rd_storeSymbols {nd m : Nat} {s : Nat → Nat} {h : jxH} (hn : h 14 0 3 = nI nd) (hs : AR (h 10 1) 6 16 s) (hn4 : nd ≤ 4) (hm : m < 40) : jx_MW 63 [jR 14 0, jI (nI m)] h (fun _ h' => ∃ f, h' = jx_st h 18 0 f ∧ ∀ k, k < 80 → f k = if k / 20 < nd ∧ k % 20 = m / 2 then (if m % 2 = 0 then nI (s (k / 20)) else h 18 0 k + nI 16 * nI (s (k / 20))) else h 18 0 k) := by
  refine jx_MW_by [some (jR 14 0), some (jI (nI m)), none, none] (by decide) rfl (Nat.le_of_ble_eq_true rfl) (fun V rule => ?_)
  have loop := jl_up (P := fun i => ∀ (o : Option jxV) (f : Nat → Int32), (∀ k, k < 80 → f k = if k / 20 < i ∧ k % 20 = m / 2 then (if m % 2 = 0 then nI (s (k / 20)) else h 18 0 k + nI 16 * nI (s (k / 20))) else h 18 0 k) → V 2 [some (jR 14 0), some (jI (nI m)), some (jI (nI i)), o] [] (jx_st h 18 0 f)) nd
    (by
      intro o f hf
      refine rule (fun _ => false) 10 2 _ _ _ ?_
      refine pk_le nd nd (fun _ => ?_) (fun q => absurd q (Nat.lt_irrefl _)) hn rfl
      exact Exists.intro f (And.intro rfl hf))
    (fun i hi ih => by
      intro o f hf
      refine rule (Nat.beq 2) 50 2 _ _ _ ?_
      refine pk_le nd i (fun q => absurd q (by omega)) (fun _ => ?_) hn rfl
      refine And.intro (by decide) ?_
      refine And.intro (by decide) ?_
      have ep : nI i * nI 20 + nI m / nI 2 = nI (i * 20 + m / 2) := by rw [pk_mul, pk_div (by omega) (by decide) (by decide), nI_add]
      have hsx : AR (jx_st h 18 0 f 10 1) 6 16 s := hs
      refine pk_eq (m % 2) 0 (fun q => ?_) (fun q => ?_) (jn_rem (by omega) (by decide) (by decide)) rfl
      · refine jx_cal (S_Col_get hsx (show i < 6 by omega)) rfl (fun r h2 hq => ?_)
        obtain ⟨rfl, rfl⟩ := hq
        refine Exists.intro (i * 20 + m / 2) (And.intro (And.intro (by omega) ep) ?_)
        refine jv_to (V := V) (ih (some (jI (nI (i * 20 + m / 2)))) (upd f (i * 20 + m / 2) (nI (s i))) (fun k hk => ?_)) (by rw [ep, nI_add]) rfl (by rw [jx_st_same, jx_st_st])
        by_cases hki : k = i * 20 + m / 2
        · subst hki
          rw [upd_same, if_pos (by omega), if_pos q, show (i * 20 + m / 2) / 20 = i by omega]
        · rw [upd_ne _ _ hki, hf k hk]
          exact if_iff ⟨fun z => by omega, fun z => by omega⟩
      · refine Exists.intro (i * 20 + m / 2) (And.intro (And.intro (by omega) ep) ?_)
        refine jx_cal (S_Col_get hsx (show i < 6 by omega)) rfl (fun r h2 hq => ?_)
        obtain ⟨rfl, rfl⟩ := hq
        refine Exists.intro (i * 20 + m / 2) (And.intro (And.intro (by omega) ep) ?_)
        have hold : f (i * 20 + m / 2) = h 18 0 (i * 20 + m / 2) := by rw [hf _ (by omega), if_neg (by omega)]
        refine jv_to (V := V) (ih (some (jI (nI (i * 20 + m / 2)))) (upd f (i * 20 + m / 2) (f (i * 20 + m / 2) + nI 16 * nI (s i))) (fun k hk => ?_)) (by rw [ep, nI_add]) rfl (by rw [jx_st_same, jx_st_st])
        by_cases hki : k = i * 20 + m / 2
        · subst hki
          rw [upd_same, if_pos (by omega), if_neg q, hold, show (i * 20 + m / 2) / 20 = i by omega]
        · rw [upd_ne _ _ hki, hf k hk]
          exact if_iff ⟨fun z => by omega, fun z => by omega⟩)
  refine rule (Nat.beq 2) 10 0 _ _ _ ?_
  exact jv_to (V := V) (loop 0 (Nat.zero_le _) none (h 18 0) (fun k hk => by rw [if_neg (fun z => absurd z.1 (Nat.not_lt_zero _))])) rfl rfl (jx_st_id h 18 0).symm
