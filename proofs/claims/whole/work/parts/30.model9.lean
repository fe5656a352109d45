/-! The reference: rebuild. -/
abbrev PL (f : Nat → Int32) (pl : Nat → Nat → Nat) : Prop := ∀ p, p < 6 → ∀ m, m < 40 → f (40 * p + m) = nI (pl p m) ∧ pl p m < 16
theorem S_M_symbolAt {k m : Nat} {l x z : Int32} {b : Nat → Bool} {pl : Nat → Nat → Nat} {h : jxH} (hb : BA (h 30 0) 6 b) (hp : PL (h 31 0) pl) (hk : k < 6) (hm : m < 40) : jx_MW 37 [jR 20 0, jI (nI k), jI (nI m), jI l, jI x, jI z] h (fun r h' => r = (if b k = true then nI (pl k m) else if nI k = l then x else z) ∧ h' = h) := by
  refine jx_MW_by [some (jR 20 0), some (jI (nI k)), some (jI (nI m)), some (jI l), some (jI x), some (jI z)] (by decide) rfl (Nat.le_of_ble_eq_true rfl) (fun V rule => ?_)
  refine rule (fun _ => false) 40 0 _ _ _ ?_
  refine Exists.intro k (And.intro (And.intro hk rfl) ?_)
  refine pk_eq (b k).toNat 0 (fun q => ?_) (fun q => ?_) (hb k hk) rfl (by have := toNat_le (b k); omega) (by decide)
  · rw [tn0 q]
    refine br_c (fun q1 => ?_) (fun q1 => ?_)
    · exact And.intro (by rw [if_neg (by decide), if_pos q1]) rfl
    · exact And.intro (by rw [if_neg (by decide), if_neg q1]) rfl
  · refine Exists.intro (40 * k + m) (And.intro (And.intro (by omega) (by rw [pk_mul, nI_add])) ?_)
    exact And.intro (by rw [if_pos (tn1 q), (hp k hk m hm).1]) rfl
def s1 (b : Nat → Bool) (pl : Nat → Nat → Nat) (m x : Nat) : Nat → Nat := fun k => if b k = true then pl k m else x
def s2 (b : Nat → Bool) (pl : Nat → Nat → Nat) (m l x z : Nat) : Nat → Nat := fun k => if b k = true then pl k m else if k = l then x else z
theorem S_M_isRightOne {nd m x : Nat} {l : Int32} {b : Nat → Bool} {pl : Nat → Nat → Nat} {h : jxH} (hw : AR (h 23 0) 15 16 gf_pw) (hn : h 20 0 13 = nI nd) (hn4 : nd ≤ 4) (hb : BA (h 30 0) 6 b) (hp : PL (h 31 0) pl) (hm : m < 40) (hx : x < 16) : jx_MW 71 [jR 20 0, jI (nI m), jI l, jI (nI x)] h (fun r h' => r = nI (decide ((if b nd = true then xs (s1 b pl m x) nd else xs (wt (s1 b pl m x)) nd) = pl (if b nd = true then nd else nd + 1) m)).toNat ∧ h' = h) := by
  refine jx_MW_by [some (jR 20 0), some (jI (nI m)), some (jI l), some (jI (nI x)), none, none, none] (by decide) rfl (Nat.le_of_ble_eq_true rfl) (fun V rule => ?_)
  have hs16 : ∀ k, k < 6 → s1 b pl m x k < 16 := fun k hk => by
    unfold s1
    split
    · exact (hp k hk m hm).2
    · exact hx
  have hbn : h 30 0 nd = nI (b nd).toNat := hb nd (by omega)
  have tnb := toNat_le (b nd)
  have hsum : ∀ k, k ≤ 4 → (if b nd = true then xs (s1 b pl m x) k else xs (wt (s1 b pl m x)) k) < 16 := fun k hk => by
    split
    · exact xs_lt (fun j hj => hs16 j (by omega))
    · exact xs_lt (fun j hj => gf_ml_lt _ _)
  have loop := jl_up (P := fun k => ∀ o6 : Option jxV, V 6 [some (jR 20 0), some (jI (nI m)), some (jI l), some (jI (nI x)), some (jI (nI (if b nd = true then xs (s1 b pl m x) k else xs (wt (s1 b pl m x)) k))), some (jI (nI k)), o6] [] h) nd
    (by
      intro o6
      refine rule (fun _ => false) 60 6 _ _ _ ?_
      refine pk_le nd nd (fun _ => ?_) (fun q => absurd q (Nat.lt_irrefl _)) hn rfl
      refine Exists.intro nd (And.intro (And.intro (by omega) hn) ?_)
      have fin : ∀ q : Nat, q = (if b nd = true then nd else nd + 1) → (if b nd = true then xs (s1 b pl m x) nd else xs (wt (s1 b pl m x)) nd) = pl q m → nI 1 = nI (decide ((if b nd = true then xs (s1 b pl m x) nd else xs (wt (s1 b pl m x)) nd) = pl (if b nd = true then nd else nd + 1) m)).toNat := fun q hq he => by
        rw [← hq, decide_eq_true he]; rfl
      have fin0 : ∀ q : Nat, q = (if b nd = true then nd else nd + 1) → ¬ (if b nd = true then xs (s1 b pl m x) nd else xs (wt (s1 b pl m x)) nd) = pl q m → nI 0 = nI (decide ((if b nd = true then xs (s1 b pl m x) nd else xs (wt (s1 b pl m x)) nd) = pl (if b nd = true then nd else nd + 1) m)).toNat := fun q hq he => by
        rw [← hq, decide_eq_false he]; rfl
      have l1 := hsum nd hn4
      refine pk_eq (b nd).toNat 0 (fun q => ?_) (fun q => ?_) hbn rfl (by omega) (by decide)
      · have e9 : nd + 1 = (if b nd = true then nd else nd + 1) := by rw [tn0 q]; rfl
        refine Exists.intro (40 * (nd + 1) + m) (And.intro (And.intro (by omega) (by rw [hn, nI_add, pk_mul, nI_add])) ?_)
        have l2 := (hp (nd + 1) (by omega) m hm).2
        refine pk_eq (if b nd = true then xs (s1 b pl m x) nd else xs (wt (s1 b pl m x)) nd) (pl (nd + 1) m) (fun z => ?_) (fun z => ?_) rfl (hp (nd + 1) (by omega) m hm).1 (by omega) (by omega)
        · exact And.intro (Or.inr rfl) (And.intro (fin _ e9 z) rfl)
        · exact And.intro (Or.inl rfl) (And.intro (fin0 _ e9 z) rfl)
      · have e9 : nd = (if b nd = true then nd else nd + 1) := by rw [tn1 q]; rfl
        refine Exists.intro (40 * nd + m) (And.intro (And.intro (by omega) (by rw [hn, pk_mul, nI_add])) ?_)
        have l2 := (hp nd (by omega) m hm).2
        refine pk_eq (if b nd = true then xs (s1 b pl m x) nd else xs (wt (s1 b pl m x)) nd) (pl nd m) (fun z => ?_) (fun z => ?_) rfl (hp nd (by omega) m hm).1 (by omega) (by omega)
        · exact And.intro (Or.inr rfl) (And.intro (fin _ e9 z) rfl)
        · exact And.intro (Or.inl rfl) (And.intro (fin0 _ e9 z) rfl))
    (fun k hk ih => by
      intro o6
      refine rule (Nat.beq 6) 60 6 _ _ _ ?_
      refine pk_le nd k (fun q => absurd q (by omega)) (fun _ => ?_) hn rfl
      refine jx_cal (S_M_symbolAt (k := k) hb hp (by omega) hm) rfl (fun r h' hq => ?_)
      obtain ⟨rfl, rfl⟩ := hq
      have es : (if b k = true then nI (pl k m) else if nI k = l then nI x else nI x) = nI (s1 b pl m x k) := by
        unfold s1
        by_cases hbk : b k = true
        · rw [if_pos hbk, if_pos hbk]
        · rw [if_neg hbk, if_neg hbk, ite_self]
      rw [es]
      refine Exists.intro nd (And.intro (And.intro (by omega) hn) ?_)
      refine pk_eq (b nd).toNat 0 (fun q => ?_) (fun q => ?_) hbn rfl (by omega) (by decide)
      · have eb := tn0 q
        refine jx_cal (S_M_of hw (e := k) (by omega)) rfl (fun r h2 hq => ?_)
        obtain ⟨rfl, rfl⟩ := hq
        refine jx_cal (S_M_product (gf_pw_lt k) (hs16 k (by omega))) rfl (fun r h2 hq => ?_)
        obtain ⟨rfl, rfl⟩ := hq
        refine jv_to (V := V) (ih (some (jI (nI (s1 b pl m x k))))) ?_ rfl rfl
        rw [eb, if_neg (by decide), if_neg (by decide), jn_xor, nI_add]
        rfl
      · have eb := tn1 q
        refine jv_to (V := V) (ih (some (jI (nI (s1 b pl m x k))))) ?_ rfl rfl
        rw [eb, if_pos rfl, if_pos rfl, jn_xor, nI_add]
        rfl)
  refine rule (Nat.beq 6) 10 0 _ _ _ ?_
  refine jv_to (V := V) (loop 0 (Nat.zero_le _) none) ?_ rfl rfl
  rw [show (if b nd = true then xs (s1 b pl m x) 0 else xs (wt (s1 b pl m x)) 0) = 0 by split <;> rfl]
theorem S_M_isRight {nd m l x z : Nat} {b : Nat → Bool} {pl : Nat → Nat → Nat} {h : jxH} (hw : AR (h 23 0) 15 16 gf_pw) (hn : h 20 0 13 = nI nd) (hn4 : nd ≤ 4) (hb : BA (h 30 0) 6 b) (hp : PL (h 31 0) pl) (hm : m < 40) (hl : l < 6) (hx : x < 16) (hz : z < 16) (b0 : b nd = true) (b1 : b (nd + 1) = true) : jx_MW 70 [jR 20 0, jI (nI m), jI (nI l), jI (nI x), jI (nI z)] h (fun r h' => r = nI (decide (xs (s2 b pl m l x z) nd = pl nd m) && decide (xs (wt (s2 b pl m l x z)) nd = pl (nd + 1) m)).toNat ∧ h' = h) := by
  refine jx_MW_by [some (jR 20 0), some (jI (nI m)), some (jI (nI l)), some (jI (nI x)), some (jI (nI z)), none, none, none, none] (by decide) rfl (Nat.le_of_ble_eq_true rfl) (fun V rule => ?_)
  have hs16 : ∀ k, k < 6 → s2 b pl m l x z k < 16 := fun k hk => by
    unfold s2
    split
    · exact (hp k hk m hm).2
    · split
      · exact hx
      · exact hz
  have hb0 : h 30 0 nd = nI 1 := by rw [hb nd (by omega), b0]; rfl
  have hb1 : h 30 0 (nd + 1) = nI 1 := by rw [hb (nd + 1) (by omega), b1]; rfl
  have p0 := hp nd (by omega) m hm
  have p1 := hp (nd + 1) (by omega) m hm
  have x0 : xs (s2 b pl m l x z) nd < 16 := xs_lt (fun j hj => hs16 j (by omega))
  have x1 : xs (wt (s2 b pl m l x z)) nd < 16 := xs_lt (fun j hj => gf_ml_lt _ _)
  have loop := jl_up (P := fun k => ∀ o8 : Option jxV, V 9 [some (jR 20 0), some (jI (nI m)), some (jI (nI l)), some (jI (nI x)), some (jI (nI z)), some (jI (nI (xs (s2 b pl m l x z) k))), some (jI (nI (xs (wt (s2 b pl m l x z)) k))), some (jI (nI k)), o8] [] h) nd
    (by
      intro o8
      refine rule (fun _ => false) 80 9 _ _ _ ?_
      refine pk_le nd nd (fun _ => ?_) (fun q => absurd q (Nat.lt_irrefl _)) hn rfl
      refine Exists.intro nd (And.intro (And.intro (by omega) hn) ?_)
      refine pk_eq 1 0 (fun q => absurd q (by decide)) (fun _ => ?_) hb0 rfl
      refine Exists.intro (40 * nd + m) (And.intro (And.intro (by omega) (by rw [hn, pk_mul, nI_add])) ?_)
      refine pk_eq (xs (s2 b pl m l x z) nd) (pl nd m) (fun q => ?_) (fun q => ?_) rfl p0.1 (by omega) (by omega)
      · refine pk_eq 1 0 (fun q => absurd q (by decide)) (fun _ => ?_)
        refine Exists.intro (nd + 1) (And.intro (And.intro (by omega) (by rw [hn, nI_add])) ?_)
        refine pk_eq 1 0 (fun q => absurd q (by decide)) (fun _ => ?_) hb1 rfl
        refine Exists.intro (40 * (nd + 1) + m) (And.intro (And.intro (by omega) (by rw [hn, nI_add, pk_mul, nI_add])) ?_)
        refine pk_eq (xs (wt (s2 b pl m l x z)) nd) (pl (nd + 1) m) (fun q2 => ?_) (fun q2 => ?_) rfl p1.1 (by omega) (by omega)
        · exact And.intro (Or.inr rfl) (And.intro (by rw [decide_eq_true q, decide_eq_true q2]; rfl) rfl)
        · exact And.intro (Or.inl rfl) (And.intro (by rw [decide_eq_true q, decide_eq_false q2]; rfl) rfl)
      · refine pk_eq 0 0 (fun _ => ?_) (fun q => absurd rfl q)
        exact And.intro (Or.inl rfl) (And.intro (by rw [decide_eq_false q]; rfl) rfl))
    (fun k hk ih => by
      intro o8
      refine rule (Nat.beq 9) 60 9 _ _ _ ?_
      refine pk_le nd k (fun q => absurd q (by omega)) (fun _ => ?_) hn rfl
      refine jx_cal (S_M_symbolAt (k := k) hb hp (by omega) hm) rfl (fun r h' hq => ?_)
      obtain ⟨rfl, rfl⟩ := hq
      have es : (if b k = true then nI (pl k m) else if nI k = nI l then nI x else nI z) = nI (s2 b pl m l x z k) := by
        unfold s2
        by_cases hbk : b k = true
        · rw [if_pos hbk, if_pos hbk]
        · rw [if_neg hbk, if_neg hbk]
          by_cases hkl : k = l
          · rw [if_pos hkl, hkl, if_pos rfl]
          · rw [if_neg hkl, if_neg (fun z => hkl (jn_inj (by omega) (by omega) z))]
      rw [es]
      refine jx_cal (S_M_of hw (e := k) (by omega)) rfl (fun r h2 hq => ?_)
      obtain ⟨rfl, rfl⟩ := hq
      refine jx_cal (S_M_product (gf_pw_lt k) (hs16 k (by omega))) rfl (fun r h2 hq => ?_)
      obtain ⟨rfl, rfl⟩ := hq
      refine jv_to (V := V) (ih (some (jI (nI (s2 b pl m l x z k))))) ?_ rfl rfl
      rw [jn_xor, jn_xor, nI_add]
      rfl)
  refine rule (Nat.beq 9) 20 0 _ _ _ ?_
  exact loop 0 (Nat.zero_le _) none
-- the lost symbols are unique
theorem xs_put {s t : Nat → Nat} {l d : Nat} : ∀ {n : Nat}, (∀ k, k < n → k ≠ l → t k = s k) → l < n → t l = s l ^^^ d → xs t n = xs s n ^^^ d
  | 0, _, h, _ => absurd h (Nat.not_lt_zero _)
  | n + 1, h1, h2, h3 => by
    show xs t n ^^^ t n = (xs s n ^^^ s n) ^^^ d
    by_cases hl : l = n
    · subst hl
      rw [h3, xs_congr (fun k hk => h1 k (by omega) (by omega)), Nat.xor_assoc]
    · rw [xs_put (fun k hk => h1 k (by omega)) (by omega) h3, h1 n (by omega) (Ne.symm hl), Nat.xor_assoc, Nat.xor_comm d, ← Nat.xor_assoc]
theorem xor_mv {a b c : Nat} : a ^^^ b = c ↔ b = c ^^^ a := by
  constructor
  · rintro rfl
    rw [Nat.xor_comm a b, Nat.xor_assoc, Nat.xor_self, Nat.xor_zero]
  · rintro rfl
    rw [Nat.xor_comm c a, ← Nat.xor_assoc, Nat.xor_self, Nat.zero_xor]
theorem gf_ml_0 (a : Nat) : gf_ml a 0 = 0 := by
  unfold gf_ml
  split <;> rfl
def gf_tw (a c p w : Nat) : Bool := (List.range 16).all (fun z => decide (gf_ml (gf_pw a) (p ^^^ z) ^^^ gf_ml (gf_pw c) z = w) == decide (z = gf_s2 p w (gf_pw a) (gf_pw c)))
theorem gf_tw_ok : (List.range 4).all (fun a => (List.range 4).all (fun c => Nat.beq a c || (List.range 16).all (fun p => (List.range 16).all (fun w => gf_tw a c p w)))) = true := by decide +kernel
theorem gf_two {a c p w z : Nat} (ha : a < 4) (hc : c < 4) (hac : a ≠ c) (hp : p < 16) (hw : w < 16) (hz : z < 16) : gf_ml (gf_pw a) (p ^^^ z) ^^^ gf_ml (gf_pw c) z = w ↔ z = gf_s2 p w (gf_pw a) (gf_pw c) := by
  have h1 := List.all_eq_true.mp gf_tw_ok a (List.mem_range.mpr ha)
  have h2 := List.all_eq_true.mp h1 c (List.mem_range.mpr hc)
  rw [Bool.or_eq_true] at h2
  rcases h2 with h2 | h2
  · exact absurd (Nat.eq_of_beq_eq_true h2) hac
  · have h3 := List.all_eq_true.mp h2 p (List.mem_range.mpr hp)
    have h4 := List.all_eq_true.mp h3 w (List.mem_range.mpr hw)
    have h5 := List.all_eq_true.mp h4 z (List.mem_range.mpr hz)
    exact decide_eq_decide.mp (eq_of_beq h5)
