/-! The reference: rebuild, put together. -/
theorem sm_hd (f : Nat → Nat) (a : Nat) : ∀ n, sm f a (n + 1) = f a + sm f (a + 1) n
  | 0 => by show 0 + f (a + 0) = f a + 0; rw [Nat.zero_add, Nat.add_zero, Nat.add_zero]
  | n + 1 => by
    show sm f a (n + 1) + f (a + (n + 1)) = f a + (sm f (a + 1) n + f (a + 1 + n))
    rw [sm_hd f a n, show a + (n + 1) = a + 1 + n by omega, Nat.add_assoc]
def lsI (b : Nat → Bool) (nd j : Nat) (lo : Int32) (many : Nat) : Prop := many + sm (fun k => (b k).toNat) (nd - j) j = j ∧
  ((many = 0 ∧ ∀ k, nd - j ≤ k → k < nd → b k = true) ∨
   (many = 1 ∧ ∃ l, nd - j ≤ l ∧ l < nd ∧ lo = nI l ∧ b l = false ∧ ∀ k, nd - j ≤ k → k < nd → k ≠ l → b k = true) ∨
   (many = 2 ∧ ∃ l c, nd - j ≤ l ∧ l < c ∧ c < nd ∧ lo = nI l ∧ b l = false ∧ b c = false ∧ ∀ k, nd - j ≤ k → k < nd → k ≠ l → k ≠ c → b k = true) ∨ 3 ≤ many)
theorem lsI_t {b : Nat → Bool} {nd j : Nat} {lo : Int32} {many : Nat} (h : lsI b nd j lo many) (hj : j < nd) (hb : b (nd - (j + 1)) = true) : lsI b nd (j + 1) lo many := by
  obtain ⟨h1, h2⟩ := h
  have e : nd - (j + 1) + 1 = nd - j := by omega
  refine ⟨by rw [sm_hd, e, hb]; show many + (1 + _) = _; omega, ?_⟩
  have key : ∀ k, nd - (j + 1) ≤ k → k < nd → k = nd - (j + 1) ∨ nd - j ≤ k := fun k _ _ => by omega
  rcases h2 with ⟨a1, a2⟩ | ⟨a1, l, a2, a3, a4, a5, a6⟩ | ⟨a1, l, c, a2, a3, a4, a5, a6, a7, a8⟩ | a1
  · exact Or.inl ⟨a1, fun k k1 k2 => by
      rcases key k k1 k2 with rfl | z
      · exact hb
      · exact a2 k z k2⟩
  · exact Or.inr (Or.inl ⟨a1, l, by omega, a3, a4, a5, fun k k1 k2 k3 => by
      rcases key k k1 k2 with rfl | z
      · exact hb
      · exact a6 k z k2 k3⟩)
  · exact Or.inr (Or.inr (Or.inl ⟨a1, l, c, by omega, a3, a4, a5, a6, a7, fun k k1 k2 k3 k4 => by
      rcases key k k1 k2 with rfl | z
      · exact hb
      · exact a8 k z k2 k3 k4⟩))
  · exact Or.inr (Or.inr (Or.inr a1))
theorem lsI_f {b : Nat → Bool} {nd j : Nat} {lo : Int32} {many : Nat} (h : lsI b nd j lo many) (hj : j < nd) (hb : b (nd - (j + 1)) = false) : lsI b nd (j + 1) (nI (nd - (j + 1))) (many + 1) := by
  obtain ⟨h1, h2⟩ := h
  have e : nd - (j + 1) + 1 = nd - j := by omega
  refine ⟨by rw [sm_hd, e, hb]; show many + 1 + (0 + _) = _; omega, ?_⟩
  rcases h2 with ⟨a1, a2⟩ | ⟨a1, l, a2, a3, a4, a5, a6⟩ | ⟨a1, l, c, a2, a3, a4, a5, a6, a7, a8⟩ | a1
  · exact Or.inr (Or.inl ⟨by omega, nd - (j + 1), Nat.le_refl _, by omega, rfl, hb, fun k k1 k2 k3 => a2 k (by omega) k2⟩)
  · exact Or.inr (Or.inr (Or.inl ⟨by omega, nd - (j + 1), l, Nat.le_refl _, by omega, a3, rfl, hb, a5, fun k k1 k2 k3 k4 => a6 k (by omega) k2 k4⟩))
  · exact Or.inr (Or.inr (Or.inr (by omega)))
  · exact Or.inr (Or.inr (Or.inr (by omega)))
/-- what the search must bring -/
def SOL (b : Nat → Bool) (pl : Nat → Nat → Nat) (nd m : Nat) (lo : Int32) (x z : Nat) : Prop := ∀ k, k < nd → (if b k = true then nI (pl k m) else if nI k = lo then nI x else nI z) = nI (col b pl nd m k)
theorem nl_0 {b : Nat → Bool} {nd a : Nat} (h : ∀ k, a ≤ k → k < nd → b k = true) : nl b nd a = nd := by
  unfold nl
  rw [fst_none (fun k h1 h2 => by rw [h k h1 (by omega)]; rfl)]
  rfl
theorem nl_1 {b : Nat → Bool} {nd a l : Nat} (ha : a ≤ l) (hl : l < nd) (hb : b l = false) (h : ∀ k, a ≤ k → k < l → b k = true) : nl b nd a = l := by
  unfold nl
  rw [fst_some ha (by omega) (fun k h1 h2 => by rw [h k h1 h2]; rfl) (by rw [hb]; rfl)]
  rfl
theorem fc_lt {b : Nat → Bool} {pl : Nat → Nat → Nat} {m : Nat} (hp : ∀ p, p < 6 → pl p m < 16) {k : Nat} (hk : k < 6) : fc b pl m k < 16 := by
  unfold fc
  split
  · exact hp k hk
  · decide
section RBD
variable {b : Nat → Bool} {pl : Nat → Nat → Nat} {nd m : Nat}
theorem sol_0 (h : ∀ k, k < nd → b k = true) (lo : Int32) : SOL b pl nd m lo 0 0 := by
  intro k hk
  rw [if_pos (h k hk), col, nl_0 (a := 0) (fun k _ hk => h k hk), nl_0 (fun k _ hk => h k hk), rst, if_neg (Nat.lt_irrefl _), if_neg (Nat.lt_irrefl _), fc, if_pos (h k hk)]
def X1 (b : Nat → Bool) (pl : Nat → Nat → Nat) (nd m l : Nat) : Nat := if b nd = true then fc b pl m nd ^^^ xs (fc b pl m) nd else gf_qt (fc b pl m (nd + 1) ^^^ xs (wt (fc b pl m)) nd) (gf_pw l)
theorem X1_lt (hp : ∀ p, p < 6 → pl p m < 16) (hn : nd ≤ 4) (l : Nat) : X1 b pl nd m l < 16 := by
  unfold X1
  split
  · exact gf_xor_lt (fc_lt hp (by omega)) (xs_lt (fun k hk => fc_lt hp (by omega)))
  · exact gf_qt_lt _ _
theorem col_1 {l : Nat} (hl : l < nd) (hb : b l = false) (ho : ∀ k, k < nd → k ≠ l → b k = true) : col b pl nd m = nup (fc b pl m) l (X1 b pl nd m l) := by
  rw [col, nl_1 (a := 0) (Nat.zero_le _) hl hb (fun k _ hk => ho k (by omega) (by omega)), nl_0 (a := l + 1) (fun k h1 h2 => ho k h2 (by omega)), rst, if_neg (Nat.lt_irrefl _), if_pos hl, X1]
  split <;> rfl
theorem sol_1 {l : Nat} (hl : l < nd) (hb : b l = false) (ho : ∀ k, k < nd → k ≠ l → b k = true) : SOL b pl nd m (nI l) (X1 b pl nd m l) 0 := by
  intro k hk
  rw [col_1 hl hb ho]
  by_cases hkl : k = l
  · subst hkl
    rw [hb, if_neg (by decide), if_pos rfl, nup_same]
  · rw [if_pos (ho k hk hkl), nup_ne _ _ hkl, fc, if_pos (ho k hk hkl)]
theorem x1_iff {l x : Nat} (hp : ∀ p, p < 6 → pl p m < 16) (hn : nd ≤ 4) (hl : l < nd) (hb : b l = false) (ho : ∀ k, k < nd → k ≠ l → b k = true) (hs : b nd = true ∨ b (nd + 1) = true) (hx : x < 16) : (if b nd = true then xs (s1 b pl m x) nd else xs (wt (s1 b pl m x)) nd) = pl (if b nd = true then nd else nd + 1) m ↔ x = X1 b pl nd m l := by
  have e0 : fc b pl m l = 0 := by rw [fc, hb]; rfl
  have e1 : s1 b pl m x l = x := by rw [s1, hb]; rfl
  have ek : ∀ k, k < nd → k ≠ l → s1 b pl m x k = fc b pl m k := fun k hk hkl => by rw [s1, fc, if_pos (ho k hk hkl), if_pos (ho k hk hkl)]
  cases hbn : b nd with
  | true =>
    rw [if_pos rfl, if_pos rfl, xs_put (s := fc b pl m) (d := x) ek hl (by rw [e1, e0, Nat.zero_xor]), xor_mv, X1, hbn, if_pos rfl, fc, if_pos hbn]
  | false =>
    have hb1 : b (nd + 1) = true := by
      rcases hs with z | z
      · rw [hbn] at z; cases z
      · exact z
    rw [if_neg (by decide), if_neg (by decide), xs_put (s := wt (fc b pl m)) (d := gf_ml (gf_pw l) x) (fun k hk hkl => by rw [wt, wt, ek k hk hkl]) hl (by rw [wt, wt, e1, e0, gf_ml_0, Nat.zero_xor]), xor_mv, X1, hbn, if_neg (by decide)]
    have hW : fc b pl m (nd + 1) ^^^ xs (wt (fc b pl m)) nd < 16 := gf_xor_lt (fc_lt hp (by omega)) (xs_lt (fun k _ => gf_ml_lt _ _))
    have eW : pl (nd + 1) m = fc b pl m (nd + 1) := by rw [fc, if_pos hb1]
    rw [eW, gf_ml_cm]
    constructor
    · intro z
      exact gf_qt_un _ hW _ (gf_pw_lt l) (gf_pw_0 l) x hx z
    · rintro rfl
      exact gf_qt_ml _ hW _ (gf_pw_lt l) (gf_pw_0 l)
def P2 (b : Nat → Bool) (pl : Nat → Nat → Nat) (nd m : Nat) : Nat := fc b pl m nd ^^^ xs (fc b pl m) nd
def W2 (b : Nat → Bool) (pl : Nat → Nat → Nat) (nd m : Nat) : Nat := fc b pl m (nd + 1) ^^^ xs (wt (fc b pl m)) nd
def Z2 (b : Nat → Bool) (pl : Nat → Nat → Nat) (nd m l c : Nat) : Nat := gf_s2 (P2 b pl nd m) (W2 b pl nd m) (gf_pw l) (gf_pw c)
theorem P2_lt (hp : ∀ p, p < 6 → pl p m < 16) (hn : nd ≤ 4) : P2 b pl nd m < 16 := gf_xor_lt (fc_lt hp (by omega)) (xs_lt (fun k hk => fc_lt hp (by omega)))
theorem W2_lt (hp : ∀ p, p < 6 → pl p m < 16) (hn : nd ≤ 4) : W2 b pl nd m < 16 := gf_xor_lt (fc_lt hp (by omega)) (xs_lt (fun k _ => gf_ml_lt _ _))
theorem Z2_lt (l c : Nat) : Z2 b pl nd m l c < 16 := gf_qt_lt _ _
theorem col_2 {l c : Nat} (hlc : l < c) (hc : c < nd) (hb : b l = false) (hbc : b c = false) (ho : ∀ k, k < nd → k ≠ l → k ≠ c → b k = true) : col b pl nd m = nup (nup (fc b pl m) c (Z2 b pl nd m l c)) l (P2 b pl nd m ^^^ Z2 b pl nd m l c) := by
  rw [col, nl_1 (a := 0) (l := l) (Nat.zero_le _) (by omega) hb (fun k _ hk => ho k (by omega) (by omega) (by omega)), nl_1 (a := l + 1) (l := c) (by omega) hc hbc (fun k h1 h2 => ho k (by omega) (by omega) (by omega)), rst, if_pos hc]
  rfl
theorem sol_2 {l c : Nat} (hlc : l < c) (hc : c < nd) (hn : nd ≤ 4) (hb : b l = false) (hbc : b c = false) (ho : ∀ k, k < nd → k ≠ l → k ≠ c → b k = true) : SOL b pl nd m (nI l) (P2 b pl nd m ^^^ Z2 b pl nd m l c) (Z2 b pl nd m l c) := by
  intro k hk
  rw [col_2 hlc hc hb hbc ho]
  by_cases hkl : k = l
  · subst hkl
    rw [hb, if_neg (by decide), if_pos rfl, nup_same]
  · rw [nup_ne _ _ hkl]
    by_cases hkc : k = c
    · subst hkc
      rw [hbc, if_neg (by decide), if_neg (fun z => hkl (jn_inj (by omega) (by omega) z)), nup_same]
    · rw [if_pos (ho k hk hkl hkc), nup_ne _ _ hkc, fc, if_pos (ho k hk hkl hkc)]
theorem x2_iff {l c x z : Nat} (hp : ∀ p, p < 6 → pl p m < 16) (hn : nd ≤ 4) (hlc : l < c) (hc : c < nd) (hb : b l = false) (hbc : b c = false) (ho : ∀ k, k < nd → k ≠ l → k ≠ c → b k = true) (b0 : b nd = true) (b1 : b (nd + 1) = true) (hz : z < 16) : (xs (s2 b pl m l x z) nd = pl nd m ∧ xs (wt (s2 b pl m l x z)) nd = pl (nd + 1) m) ↔ (z = Z2 b pl nd m l c ∧ x = P2 b pl nd m ^^^ Z2 b pl nd m l c) := by
  have e0 : fc b pl m l = 0 := by rw [fc, hb]; rfl
  have e0c : fc b pl m c = 0 := by rw [fc, hbc]; rfl
  have e1 : s2 b pl m l x z l = x := by rw [s2, hb, if_neg (by decide), if_pos rfl]
  have e1c : s2 b pl m l x z c = z := by rw [s2, hbc, if_neg (by decide), if_neg (by omega)]
  have ek : ∀ k, k < nd → k ≠ l → k ≠ c → s2 b pl m l x z k = fc b pl m k := fun k hk hkl hkc => by rw [s2, fc, if_pos (ho k hk hkl hkc), if_pos (ho k hk hkl hkc)]
  have hx1 : xs (s2 b pl m l x z) nd = (xs (fc b pl m) nd ^^^ x) ^^^ z := by
    rw [xs_put (s := nup (fc b pl m) l x) (l := c) (d := z) (fun k hk hkc => by
      by_cases hkl : k = l
      · subst hkl; rw [nup_same, e1]
      · rw [nup_ne _ _ hkl, ek k hk hkl hkc]) hc (by rw [e1c, nup_ne _ _ (by omega), e0c, Nat.zero_xor])]
    rw [xs_put (s := fc b pl m) (l := l) (d := x) (fun k hk hkl => nup_ne _ _ hkl) (by omega) (by rw [nup_same, e0, Nat.zero_xor])]
  have hx2 : xs (wt (s2 b pl m l x z)) nd = (xs (wt (fc b pl m)) nd ^^^ gf_ml (gf_pw l) x) ^^^ gf_ml (gf_pw c) z := by
    rw [xs_put (s := wt (nup (fc b pl m) l x)) (l := c) (d := gf_ml (gf_pw c) z) (fun k hk hkc => by
      by_cases hkl : k = l
      · subst hkl; rw [wt, wt, nup_same, e1]
      · rw [wt, wt, nup_ne _ _ hkl, ek k hk hkl hkc]) hc (by rw [wt, wt, e1c, nup_ne _ _ (by omega), e0c, gf_ml_0, Nat.zero_xor])]
    rw [xs_put (s := wt (fc b pl m)) (l := l) (d := gf_ml (gf_pw l) x) (fun k hk hkl => by rw [wt, wt, nup_ne _ _ hkl]) (by omega) (by rw [wt, wt, nup_same, e0, gf_ml_0, Nat.zero_xor])]
  have eP : P2 b pl nd m = pl nd m ^^^ xs (fc b pl m) nd := by rw [P2, fc, if_pos b0]
  have eW : W2 b pl nd m = pl (nd + 1) m ^^^ xs (wt (fc b pl m)) nd := by rw [W2, fc, if_pos b1]
  have i1 : (xs (fc b pl m) nd ^^^ x) ^^^ z = pl nd m ↔ x ^^^ z = P2 b pl nd m := by
    rw [Nat.xor_assoc, eP]
    exact xor_mv
  have i2 : (xs (wt (fc b pl m)) nd ^^^ gf_ml (gf_pw l) x) ^^^ gf_ml (gf_pw c) z = pl (nd + 1) m ↔ gf_ml (gf_pw l) x ^^^ gf_ml (gf_pw c) z = W2 b pl nd m := by
    rw [Nat.xor_assoc, eW]
    exact xor_mv
  rw [hx1, hx2, i1, i2, Z2]
  have key := gf_two (a := l) (c := c) (z := z) (by omega) (by omega) (by omega) (P2_lt (b := b) hp hn) (W2_lt (b := b) hp hn) hz
  constructor
  · rintro ⟨q1, q2⟩
    have ex : x = P2 b pl nd m ^^^ z := by rw [← q1]; exact xor_3 _ _
    rw [ex] at q2
    have ez := key.mp q2
    exact ⟨ez, by rw [← ez]; exact ex⟩
  · rintro ⟨q1, q2⟩
    rw [← q1] at q2
    refine ⟨by rw [q2]; exact (xor_3 _ _).symm, ?_⟩
    rw [q2]
    exact key.mpr q1
theorem col_lt (hp : ∀ p, p < 6 → pl p m < 16) (hn : nd ≤ 4) {k : Nat} (hk : k < 6) : col b pl nd m k < 16 := by
  have f16 : ∀ k, k < 6 → fc b pl m k < 16 := fun k hk => fc_lt hp hk
  have x16 : xs (fc b pl m) nd < 16 := xs_lt (fun k hk => f16 k (by omega))
  have n16 : ∀ (s : Nat → Nat) (j v : Nat), (∀ k, k < 6 → s k < 16) → v < 16 → ∀ k, k < 6 → nup s j v k < 16 := fun s j v hs hv k hk => by
    unfold nup
    split
    · exact hv
    · exact hs k hk
  unfold col rst
  split
  · exact n16 _ _ _ (n16 _ _ _ f16 (gf_qt_lt _ _)) (gf_xor_lt (gf_xor_lt (f16 _ (by omega)) x16) (gf_qt_lt _ _)) k hk
  · split
    · split
      · exact n16 _ _ _ f16 (gf_xor_lt (f16 _ (by omega)) x16) k hk
      · exact n16 _ _ _ f16 (gf_qt_lt _ _) k hk
    · exact f16 k hk
end RBD
theorem or_16 : ∀ a, a < 16 → ∀ c, c < 16 → a ||| c * 2 ^ 4 = a + 16 * c := by decide +kernel
set_option maxHeartbeats 1000000 in
theorem S_M_rebuild {kp nd ln : Nat} {b : Nat → Bool} {pl : Nat → Nat → Nat} {h : jxH} (hw : AR (h 23 0) 15 16 gf_pw) (hk : h 20 0 12 = nI kp) (hn : h 20 0 13 = nI nd) (hl : h 20 0 14 = nI ln) (hb : BA (h 30 0) 6 b) (hp : PL (h 31 0) pl) (hk9 : kp < 100) (hn4 : nd ≤ 4) (hl9 : ln ≤ 20 * nd) (hc : 0 < kp → kp = sm (fun k => (b k).toNat) 0 (nd + 2)) : jx_MW 91 [jR 20 0] h
    (fun q h' => ((0 < kp ∧ nd ≤ kp) → q = nI ln ∧ ∃ f, h' = jx_st (jx_st h 20 0 (upd (upd (h 20 0) 0 (nI 0)) 17 (nI ln))) 32 0 f ∧ ∀ i, i < ln → f i = nI (col b pl nd (2 * (i % 20)) (i / 20) + 16 * col b pl nd (2 * (i % 20) + 1) (i / 20))) ∧ (¬ (0 < kp ∧ nd ≤ kp) → h' = thr h 1)) := by
  refine jx_MW_by [some (jR 20 0), none, none, none, none, none, none, none, none] (by decide) rfl (Nat.le_of_ble_eq_true rfl) (fun V rule => ?_)
  by_cases hen : ¬ (0 < kp ∧ nd ≤ kp)
  · refine rule (fun _ => false) 40 0 _ _ _ ?_
    refine pk_eq kp 0 (fun q => ?_) (fun q => ?_) hk rfl
    · refine pk_eq 1 0 (fun z => absurd z (by decide)) (fun _ => ?_)
      exact And.intro (fun z => absurd z hen) (fun _ => rfl)
    · refine pk_le nd kp (fun q1 => absurd ⟨by omega, q1⟩ hen) (fun q1 => ?_) hn hk
      refine pk_eq 1 0 (fun z => absurd z (by decide)) (fun _ => ?_)
      exact And.intro (fun z => absurd z hen) (fun _ => rfl)
  have hen := Classical.not_not.mp hen
  have hc := hc hen.1
  have hp6 : ∀ m, m < 40 → ∀ p, p < 6 → pl p m < 16 := fun m hm p hp9 => (hp p hp9 m hm).2
  obtain ⟨B, hB⟩ : ∃ B, B = jx_st h 20 0 (upd (upd (h 20 0) 0 (nI 0)) 17 (nI ln)) := ⟨_, rfl⟩
  have B13 : ∀ f, jx_st B 32 0 f 20 0 13 = nI nd := fun f => by rw [hB]; exact hn
  have B14 : ∀ f, jx_st B 32 0 f 20 0 14 = nI ln := fun f => by rw [hB]; exact hl
  have Bw : ∀ f, AR (jx_st B 32 0 f 23 0) 15 16 gf_pw := fun f => by rw [hB]; exact hw
  have Bb : ∀ f, BA (jx_st B 32 0 f 30 0) 6 b := fun f => by rw [hB]; exact hb
  have Bp : ∀ f, PL (jx_st B 32 0 f 31 0) pl := fun f => by rw [hB]; exact hp
  have c16 : ∀ m k, m < 40 → k < 6 → col b pl nd m k < 16 := fun m k hm hk => col_lt (hp6 m hm) hn4 hk
  have RBX : ∃ RB : Nat → Nat → (Nat → Int32) → Prop, ∀ m k f, RB m k f ↔ ∀ i, i < ln → ((2 * (i % 20) + 1 < m ∨ (m = 2 * (i % 20) + 1 ∧ i / 20 < k)) → f i = nI (col b pl nd (2 * (i % 20)) (i / 20) + 16 * col b pl nd (2 * (i % 20) + 1) (i / 20))) ∧ (((m = 2 * (i % 20) + 1 ∧ ¬ i / 20 < k) ∨ (m = 2 * (i % 20) ∧ i / 20 < k)) → f i = nI (col b pl nd (2 * (i % 20)) (i / 20))) := ⟨_, fun _ _ _ => Iff.rfl⟩
  obtain ⟨RB, hRB⟩ := RBX
  have loopM := fun (lo : Int32) (many : Nat) (hI : lsI b nd nd lo many) => jl_up (P := fun m => ∀ (o4 o5 o6 o7 o8 : Option jxV) (f : Nat → Int32), RB m 0 f → V 99 [some (jR 20 0), some (jI lo), some (jI (nI many)), some (jI (nI m)), o4, o5, o6, o7, o8] [] (jx_st B 32 0 f)) 40
    (by
      intro o4 o5 o6 o7 o8 f hf
      refine rule (fun _ => false) 20 99 _ _ _ ?_
      refine pk_le 40 40 (fun _ => ?_) (fun q => absurd q (Nat.lt_irrefl _))
      refine And.intro (fun _ => And.intro ?_ (Exists.intro f (And.intro (by rw [hB]) (fun i hi => ((hRB 40 0 f).mp hf i hi).1 (Or.inl (by omega)))))) (fun z => absurd hen z)
      rw [hB]
      rfl)
    (fun m hm ih => by
      intro o4 o5 o6 o7 o8 f hf
      have inner := fun (x z : Nat) (hx : x < 16) (hz : z < 16) (hS : SOL b pl nd m lo x z) => jl_up (P := fun k => ∀ (o7 o8 : Option jxV) (f : Nat → Int32), RB m k f → V 192 [some (jR 20 0), some (jI lo), some (jI (nI many)), some (jI (nI m)), some (jI (nI x)), some (jI (nI z)), some (jI (nI k)), o7, o8] [] (jx_st B 32 0 f)) nd
        (by
          intro o7 o8 f hf
          refine rule (Nat.beq 99) 20 192 _ _ _ ?_
          refine pk_le nd nd (fun _ => ?_) (fun q => absurd q (Nat.lt_irrefl _)) (B13 f) rfl
          refine jv_to (V := V) (ih (some (jI (nI x))) (some (jI (nI z))) (some (jI (nI nd))) o7 o8 f ((hRB _ _ _).mpr (fun i hi => ?_))) (by rw [nI_add]) rfl rfl
          have h9 := (hRB _ _ _).mp hf i hi
          exact ⟨fun q => h9.1 (by omega), fun q => h9.2 (by omega)⟩)
        (fun k hk ih2 => by
          intro o7 o8 f hf
          refine rule (Nat.beq 192) 60 192 _ _ _ ?_
          refine pk_le nd k (fun q => absurd q (by omega)) (fun _ => ?_) (B13 f) rfl
          refine And.intro (by decide) ?_
          have ep : nI 20 * nI k + nI m / nI 2 = nI (20 * k + m / 2) := by rw [pk_mul, pk_div (by omega) (by decide) (by decide), nI_add]
          refine jx_cal (S_M_symbolAt (k := k) (Bb f) (Bp f) (by omega) hm) rfl (fun r h' hq => ?_)
          obtain ⟨rfl, rfl⟩ := hq
          rw [hS k hk]
          have cm := c16 m k hm (by omega)
          have e20 : (20 * k + m / 2) % 20 = m / 2 := by omega
          have e21 : (20 * k + m / 2) / 20 = k := by omega
          refine pk_le ln (20 * k + m / 2) (fun q => ?_) (fun q => ?_) (B14 f) ep
          rotate_left
          · refine And.intro (by decide) ?_
            refine pk_eq (m % 2) 0 (fun q1 => ?_) (fun q1 => ?_) (jn_rem (by omega) (by decide) (by decide)) rfl
            · refine Exists.intro (20 * k + m / 2) (And.intro (And.intro (by omega) ep) ?_)
              refine jv_to (V := V) (ih2 (some (jI (nI (20 * k + m / 2)))) (some (jI (nI (col b pl nd m k)))) (upd f (20 * k + m / 2) (nI (col b pl nd m k))) ((hRB _ _ _).mpr (fun i hi => ?_))) (by rw [ep, nI_add]) rfl (by rw [jx_st_same, jx_st_st])
              have h9 := (hRB _ _ _).mp hf i hi
              by_cases hii : i = 20 * k + m / 2
              · subst hii
                rw [upd_same, e20, e21, show 2 * (m / 2) = m by omega]
                exact ⟨fun z => absurd z (by omega), fun _ => rfl⟩
              · rw [upd_ne _ _ hii]
                exact ⟨fun z => h9.1 (by omega), fun z => h9.2 (by omega)⟩
            · refine Exists.intro (20 * k + m / 2) (And.intro (And.intro (by omega) ep) ?_)
              refine Exists.intro (20 * k + m / 2) (And.intro (And.intro (by omega) ep) ?_)
              have hold : f (20 * k + m / 2) = nI (col b pl nd (2 * (m / 2)) k) := by
                have := ((hRB _ _ _).mp hf (20 * k + m / 2) q).2 (Or.inl ⟨by omega, by omega⟩)
                rwa [e20, e21] at this
              have cm2 := c16 (2 * (m / 2)) k (by omega) (by omega)
              have ev : jx_st B 32 0 f 32 0 (20 * k + m / 2) ||| nI (col b pl nd m k) <<< (nI 4 &&& 31) = nI (col b pl nd (2 * (m / 2)) k + 16 * col b pl nd m k) := by
                rw [jx_st_same, hold, jn_shl (by decide) (by omega), jn_or, or_16 _ cm2 _ cm]
              rw [ev]
              refine jv_to (V := V) (ih2 (some (jI (nI (20 * k + m / 2)))) (some (jI (nI (col b pl nd m k)))) (upd f (20 * k + m / 2) (nI (col b pl nd (2 * (m / 2)) k + 16 * col b pl nd m k))) ((hRB _ _ _).mpr (fun i hi => ?_))) (by rw [ep, nI_add]) rfl (by rw [jx_st_same, jx_st_st])
              have h9 := (hRB _ _ _).mp hf i hi
              by_cases hii : i = 20 * k + m / 2
              · subst hii
                rw [upd_same, e20, e21, show 2 * (m / 2) + 1 = m by omega]
                exact ⟨fun _ => rfl, fun z => absurd z (by omega)⟩
              · rw [upd_ne _ _ hii]
                exact ⟨fun z => h9.1 (by omega), fun z => h9.2 (by omega)⟩
          · refine jv_to (V := V) (ih2 (some (jI (nI (20 * k + m / 2)))) (some (jI (nI (col b pl nd m k)))) f ((hRB _ _ _).mpr (fun i hi => ?_))) (by rw [ep, nI_add]) rfl rfl
            have h9 := (hRB _ _ _).mp hf i hi
            exact ⟨fun z => h9.1 (by omega), fun z => h9.2 (by omega)⟩)
      obtain ⟨hI1, hI2⟩ := hI
      have hc2 : kp = sm (fun k => (b k).toNat) 0 nd + (b nd).toNat + (b (nd + 1)).toNat := by
        rw [hc]
        show sm _ 0 nd + (b (0 + nd)).toNat + (b (0 + (nd + 1))).toNat = _
        rw [Nat.zero_add, Nat.zero_add]
      rw [Nat.sub_self] at hI1 hI2
      have t0 := toNat_le (b nd)
      have t1 := toNat_le (b (nd + 1))
      rcases hI2 with ⟨a1, a2⟩ | ⟨a1, l, a2, a3, a4, a5, a6⟩ | ⟨a1, l, c, a2, a3, a4, a5, a6, a7, a8⟩ | a1
      · subst a1
        refine rule (fun n => Nat.beq 192 n) 30 99 _ _ _ ?_
        refine pk_le 40 m (fun q => absurd q (by omega)) (fun _ => ?_)
        refine pk_eq 0 1 (fun q => absurd q (by decide)) (fun _ => ?_)
        refine pk_eq 0 2 (fun q => absurd q (by decide)) (fun _ => ?_)
        exact inner 0 0 (by decide) (by decide) (sol_0 (fun k hk => a2 k (Nat.zero_le _) hk) lo) 0 (Nat.zero_le _) o7 o8 f hf
      · subst a1 a4
        have hs : b nd = true ∨ b (nd + 1) = true := by
          cases e0 : b nd with
          | true => exact Or.inl rfl
          | false =>
            cases e1 : b (nd + 1) with
            | true => exact Or.inr rfl
            | false =>
              rw [e0, e1] at hc2
              have : kp = sm (fun k => (b k).toNat) 0 nd + 0 + 0 := hc2
              omega
        have ho : ∀ k, k < nd → k ≠ l → b k = true := fun k hk hkl => a6 k (Nat.zero_le _) hk hkl
        have x16 := X1_lt (b := b) (pl := pl) (m := m) (hp6 m hm) hn4 l
        have srch := jl_up (P := fun x => V 111 [some (jR 20 0), some (jI (nI l)), some (jI (nI 1)), some (jI (nI m)), some (jI (nI x)), some (jI (nI 0)), o6, o7, o8] [] (jx_st B 32 0 f)) (X1 b pl nd m l)
          (by
            refine rule (fun n => Nat.beq 192 n) 30 111 _ _ _ ?_
            refine pk_eq 1 1 (fun _ => ?_) (fun q => absurd rfl q)
            refine jx_cal (S_M_isRightOne (Bw f) (B13 f) hn4 (Bb f) (Bp f) hm x16) rfl (fun r h' hq => ?_)
            obtain ⟨rfl, rfl⟩ := hq
            refine pk_eq 1 0 (fun q => absurd q (by decide)) (fun _ => ?_) (by rw [decide_eq_true ((x1_iff (hp6 m hm) hn4 a3 a5 ho hs x16).mpr rfl)]; rfl) rfl
            refine pk_eq 1 2 (fun q => absurd q (by decide)) (fun _ => ?_)
            exact inner _ 0 x16 (by decide) (sol_1 a3 a5 ho) 0 (Nat.zero_le _) o7 o8 f hf)
          (fun x hx ih3 => by
            refine rule (fun n => Nat.beq 111 n) 30 111 _ _ _ ?_
            refine pk_eq 1 1 (fun _ => ?_) (fun q => absurd rfl q)
            refine jx_cal (S_M_isRightOne (Bw f) (B13 f) hn4 (Bb f) (Bp f) hm (show x < 16 by omega)) rfl (fun r h' hq => ?_)
            obtain ⟨rfl, rfl⟩ := hq
            refine pk_eq 0 0 (fun _ => ?_) (fun q => absurd rfl q) (by rw [decide_eq_false (fun z => absurd ((x1_iff (hp6 m hm) hn4 a3 a5 ho hs (show x < 16 by omega)).mp z) (by omega))]; rfl) rfl
            exact jv_to (V := V) ih3 (by rw [nI_add]) rfl rfl)
        refine rule (fun n => Nat.beq 111 n) 30 99 _ _ _ ?_
        refine pk_le 40 m (fun q => absurd q (by omega)) (fun _ => ?_)
        exact srch 0 (Nat.zero_le _)
      · subst a1 a5
        have hs : b nd = true ∧ b (nd + 1) = true := by
          cases e0 : b nd with
          | true =>
            cases e1 : b (nd + 1) with
            | true => exact ⟨rfl, rfl⟩
            | false =>
              rw [e0, e1] at hc2
              have : kp = sm (fun k => (b k).toNat) 0 nd + 1 + 0 := hc2
              omega
          | false =>
            rw [e0] at hc2
            have : kp = sm (fun k => (b k).toNat) 0 nd + 0 + (b (nd + 1)).toNat := hc2
            omega
        have ho : ∀ k, k < nd → k ≠ l → k ≠ c → b k = true := fun k hk hkl hkc => a8 k (Nat.zero_le _) hk hkl hkc
        obtain ⟨Z, hZ⟩ : ∃ Z, Z = Z2 b pl nd m l c := ⟨_, rfl⟩
        obtain ⟨X, hX⟩ : ∃ X, X = P2 b pl nd m ^^^ Z2 b pl nd m l c := ⟨_, rfl⟩
        have z16 : Z < 16 := by rw [hZ]; exact Z2_lt l c
        have x16 : X < 16 := by rw [hX]; exact gf_xor_lt (P2_lt (hp6 m hm) hn4) (Z2_lt l c)
        have hsol := sol_2 (pl := pl) (m := m) a3 a4 hn4 a6 a7 ho
        rw [← hX, ← hZ] at hsol
        have hiff := fun x z hz => x2_iff (pl := pl) (m := m) (x := x) (z := z) (hp6 m hm) hn4 a3 a4 a6 a7 ho hs.1 hs.2 hz
        rw [← hX, ← hZ] at hiff
        have hdec : ∀ x z, z < 16 → (decide (xs (s2 b pl m l x z) nd = pl nd m) && decide (xs (wt (s2 b pl m l x z)) nd = pl (nd + 1) m)) = decide (z = Z ∧ x = X) := fun x z hz => by
          rw [← Bool.decide_and]
          exact decide_eq_decide.mpr (hiff x z hz)
        have srch := jl_up (P := fun n => V 133 [some (jR 20 0), some (jI (nI l)), some (jI (nI 2)), some (jI (nI m)), some (jI (nI (n / 16))), some (jI (nI (n % 16))), o6, o7, o8] [] (jx_st B 32 0 f)) (16 * X + Z)
          (by
            refine rule (fun n => Nat.beq 192 n) 30 133 _ _ _ ?_
            refine pk_eq 2 2 (fun _ => ?_) (fun q => absurd rfl q)
            rw [show (16 * X + Z) / 16 = X by omega, show (16 * X + Z) % 16 = Z by omega]
            refine jx_cal (S_M_isRight (Bw f) (B13 f) hn4 (Bb f) (Bp f) hm (by omega) x16 z16 hs.1 hs.2) rfl (fun r h' hq => ?_)
            obtain ⟨rfl, rfl⟩ := hq
            refine pk_eq 1 0 (fun q => absurd q (by decide)) (fun _ => ?_) (by rw [hdec _ _ z16, decide_eq_true ⟨rfl, rfl⟩]; rfl) rfl
            exact inner X Z x16 z16 hsol 0 (Nat.zero_le _) o7 o8 f hf)
          (fun n hn9 ih3 => by
            refine rule (fun n => Nat.beq 133 n) 40 133 _ _ _ ?_
            refine pk_eq 2 2 (fun _ => ?_) (fun q => absurd rfl q)
            refine jx_cal (S_M_isRight (x := n / 16) (z := n % 16) (Bw f) (B13 f) hn4 (Bb f) (Bp f) hm (by omega) (by omega) (by omega) hs.1 hs.2) rfl (fun r h' hq => ?_)
            obtain ⟨rfl, rfl⟩ := hq
            refine pk_eq 0 0 (fun _ => ?_) (fun q => absurd rfl q) (by rw [hdec _ _ (by omega), decide_eq_false (by omega)]; rfl) rfl
            refine pk_eq (n % 16) 15 (fun q => ?_) (fun q => ?_)
            · refine pk_eq (n % 16) 15 (fun _ => ?_) (fun q9 => absurd q q9)
              exact jv_to (V := V) ih3 (by rw [nI_add, show (n + 1) / 16 = n / 16 + 1 by omega, show (n + 1) % 16 = 0 by omega]) rfl rfl
            · refine pk_eq (n % 16) 15 (fun q9 => absurd q9 q) (fun _ => ?_)
              exact jv_to (V := V) ih3 (by rw [nI_add, show (n + 1) / 16 = n / 16 by omega, show (n + 1) % 16 = n % 16 + 1 by omega]) rfl rfl)
        refine rule (fun n => Nat.beq 133 n) 30 99 _ _ _ ?_
        refine pk_le 40 m (fun q => absurd q (by omega)) (fun _ => ?_)
        refine pk_eq 2 1 (fun q => absurd q (by decide)) (fun _ => ?_)
        exact srch 0 (Nat.zero_le _)
      · exact absurd hen.2 (by omega))
  have loopL := jl_up (P := fun j => ∀ (lo : Int32) (many : Nat), lsI b nd j lo many → V 47 [some (jR 20 0), some (jI lo), some (jI (nI many)), some (jI (nI (nd - j) - nI 1)), none, none, none, none, none] [] (thr h 0)) nd
    (by
      intro lo many hI
      refine rule (Nat.beq 99) 30 47 _ _ _ ?_
      rw [Nat.sub_self]
      refine br_c (fun _ => ?_) (fun q => absurd (by decide) q)
      refine jv_to (V := V) (loopM lo many hI 0 (Nat.zero_le _) none none none none none (h 32 0) ((hRB _ _ _).mpr (fun i hi => ⟨fun z => absurd z (by omega), fun z => absurd z (by omega)⟩))) rfl rfl ?_
      show jx_st (jx_st h 20 0 (upd (h 20 0) 0 (nI 0))) 20 0 (upd (upd (h 20 0) 0 (nI 0)) 17 (h 20 0 14)) = _
      rw [jx_st_st, hB, hl]
      exact (jx_st_id _ 32 0).symm)
    (fun j hj ih => by
      intro lo many hI
      refine rule (Nat.beq 47) 40 47 _ _ _ ?_
      have ek : nI (nd - j) - nI 1 = nI (nd - (j + 1)) := by rw [pk_sub (by omega), show nd - j - 1 = nd - (j + 1) by omega]
      have eN : nI (nd - j) - nI 1 + -nI (0 + 1) = nI (nd - (j + 1)) - nI 1 := by rw [ek]; exact (Int32.sub_eq_add_neg _ _).symm
      refine br_c (fun q => absurd q (by rw [ek]; exact nI_pos (by omega))) (fun _ => ?_)
      have hbk : thr h 0 30 0 (nd - (j + 1)) = nI (b (nd - (j + 1))).toNat := hb _ (by omega)
      have tb := toNat_le (b (nd - (j + 1)))
      refine Exists.intro (nd - (j + 1)) (And.intro (And.intro (by omega) ek) ?_)
      refine pk_eq (b (nd - (j + 1))).toNat 0 (fun q => ?_) (fun q => ?_) hbk rfl (by omega) (by decide)
      · refine Exists.intro (nd - (j + 1)) (And.intro (And.intro (by omega) ek) ?_)
        refine pk_eq (b (nd - (j + 1))).toNat 0 (fun _ => ?_) (fun z => absurd q z) hbk rfl (by omega) (by decide)
        exact jv_to (V := V) (ih _ _ (lsI_f hI hj (tn0 q))) (by rw [eN, ek, nI_add]) rfl rfl
      · refine Exists.intro (nd - (j + 1)) (And.intro (And.intro (by omega) ek) ?_)
        refine pk_eq (b (nd - (j + 1))).toNat 0 (fun z => absurd z q) (fun _ => ?_) hbk rfl (by omega) (by decide)
        exact jv_to (V := V) (ih _ _ (lsI_t hI hj (tn1 q))) (by rw [eN, show nI many + nI 0 = nI many from nI_add _ _]) rfl rfl)
  refine rule (Nat.beq 47) 40 0 _ _ _ ?_
  refine pk_eq kp 0 (fun q => absurd q (by omega)) (fun _ => ?_) hk rfl
  refine pk_le nd kp (fun _ => ?_) (fun q => absurd q (by omega)) hn hk
  refine pk_eq 0 0 (fun _ => ?_) (fun z => absurd rfl z)
  refine jv_to (V := V) (loopL 0 (Nat.zero_le _) (-nI 1) 0 ⟨rfl, Or.inl ⟨rfl, fun k k1 k2 => absurd k2 (by omega)⟩⟩) ?_ rfl rfl
  rw [show jx_st h 20 0 (upd (h 20 0) 0 (nI 0)) 20 0 13 = nI nd from hn]
  rfl
