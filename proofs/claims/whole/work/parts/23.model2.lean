/-! The reference: symbols, payload, data, sums. -/
theorem S_M_frame {x y : Nat} {h : jxH} (hx : x < 18) (hy : y < 18) : jx_MW 28 [jR 20 0, jI (nI x), jI (nI y)] h (fun r h' => r = nI (fr x y).toNat ∧ h' = h) := by
  refine jx_MW_by [some (jR 20 0), some (jI (nI x)), some (jI (nI y))] (by decide) rfl (Nat.le_of_ble_eq_true rfl) (fun V rule => ?_)
  refine rule (fun _ => false) 40 0 _ _ _ ?_
  refine pk_eq x 0 (fun q1 => ?_) (fun q1 => ?_)
  · refine And.intro (Or.inr rfl) (And.intro ?_ rfl)
    simp [fr, q1]
  refine pk_eq y 0 (fun q2 => ?_) (fun q2 => ?_)
  · refine And.intro (Or.inr rfl) (And.intro ?_ rfl)
    simp [fr, q2]
  refine pk_eq x 17 (fun q3 => ?_) (fun q3 => ?_)
  · refine And.intro (by decide) ?_
    refine pk_eq (y % 2) 0 (fun q4 => ?_) (fun q4 => ?_) (jn_rem (by omega) (by decide) (by decide)) rfl
    · refine And.intro (Or.inr rfl) (And.intro ?_ rfl)
      simp [fr, q3, q4]
    refine pk_eq y 17 (fun q5 => ?_) (fun q5 => ?_)
    · refine And.intro (by decide) ?_
      refine pk_eq (x % 2) 0 (fun q6 => ?_) (fun q6 => ?_) (jn_rem (by omega) (by decide) (by decide)) rfl
      · refine And.intro (Or.inr rfl) (And.intro ?_ rfl)
        simp [fr, q5, q6]
      · refine And.intro (Or.inl rfl) (And.intro ?_ rfl)
        simp [fr, q1, q2, q3, q4, q5, q6]
    · refine And.intro (Or.inl rfl) (And.intro ?_ rfl)
      simp [fr, q1, q2, q3, q4, q5]
  · refine pk_eq y 17 (fun q5 => ?_) (fun q5 => ?_)
    · refine And.intro (by decide) ?_
      refine pk_eq (x % 2) 0 (fun q6 => ?_) (fun q6 => ?_) (jn_rem (by omega) (by decide) (by decide)) rfl
      · refine And.intro (Or.inr rfl) (And.intro ?_ rfl)
        simp [fr, q5, q6]
      · refine And.intro (Or.inl rfl) (And.intro ?_ rfl)
        simp [fr, q1, q2, q3, q5, q6]
    · refine And.intro (Or.inl rfl) (And.intro ?_ rfl)
      simp [fr, q1, q2, q3, q5]
theorem S_M_bit {a k : Nat} {b : Nat → Bool} {h : jxH} (hb : BA (h 24 0) 324 b) (ha : a < 324) (hk : k < 4) : jx_MW 26 [jR 20 0, jI (nI a), jI (nI k)] h (fun r h' => r = nI (if b a = true then 2 ^ k else 0) ∧ h' = h) := by
  refine jx_MW_by [some (jR 20 0), some (jI (nI a)), some (jI (nI k))] (by decide) rfl (Nat.le_of_ble_eq_true rfl) (fun V rule => ?_)
  refine rule (fun _ => false) 40 0 _ _ _ ?_
  refine Exists.intro a (And.intro (And.intro ha rfl) ?_)
  refine pk_eq (b a).toNat 0 (fun q => ?_) (fun q => ?_) (hb a ha) rfl (by have := toNat_le (b a); omega) (by decide)
  · exact And.intro (by rw [tn0 q]; rfl) rfl
  · have hp : 2 ^ k ≤ 2 ^ 4 := Nat.pow_le_pow_right (by decide) (by omega)
    exact And.intro (by rw [if_pos (tn1 q), jn_shl (by omega) (by rw [Nat.one_mul]; omega), Nat.one_mul]) rfl
theorem S_M_symbolOf {k m len : Nat} {dc : Nat → Nat} {h : jxH} (hl : h 20 0 1 = nI len) (hl9 : len ≤ 80) (hd : AR (h 21 0) 80 256 dc) (hk : k < 10) (hm : m < 40) : jx_MW 38 [jR 20 0, jI (nI k), jI (nI m)] h (fun r h' => r = nI (ds dc len k m) ∧ h' = h) := by
  refine jx_MW_by [some (jR 20 0), some (jI (nI k)), some (jI (nI m)), none] (by decide) rfl (Nat.le_of_ble_eq_true rfl) (fun V rule => ?_)
  refine rule (fun _ => false) 40 0 _ _ _ ?_
  refine And.intro (by decide) ?_
  have ep : nI 20 * nI k + nI m / nI 2 = nI (k * 20 + m / 2) := by rw [pk_mul, pk_div (by omega) (by decide) (by decide), nI_add, Nat.mul_comm]
  refine pk_lt (k * 20 + m / 2) len (fun q => ?_) (fun q => ?_) ep hl
  · refine And.intro (by decide) ?_
    have hdl := hd.lt (show k * 20 + m / 2 < 80 by omega)
    have hda := hd.at (show k * 20 + m / 2 < 80 by omega)
    refine pk_eq (m % 2) 0 (fun q1 => ?_) (fun q1 => ?_) (jn_rem (by omega) (by decide) (by decide)) rfl
    · refine Exists.intro (k * 20 + m / 2) (And.intro (And.intro (by omega) ep) ?_)
      refine And.intro ?_ rfl
      rw [hda, ds, if_pos q, if_pos q1, jn_and]
      exact congrArg nI (Nat.and_two_pow_sub_one_eq_mod _ 4)
    · refine Exists.intro (k * 20 + m / 2) (And.intro (And.intro (by omega) ep) ?_)
      refine And.intro ?_ rfl
      rw [hda, ds, if_pos q, if_neg q1]
      exact jn_shr (k := 4) (by decide) (by omega)
  · refine And.intro ?_ rfl
    rw [ds, if_neg (by omega)]
theorem S_M_payload {pg n m len : Nat} {dc : Nat → Nat} {h : jxH} (hw : AR (h 23 0) 15 16 gf_pw) (hl : h 20 0 1 = nI len) (hl9 : len ≤ 80) (hd : AR (h 21 0) 80 256 dc) (hn : n ≤ 4) (hpg : pg ≤ n + 1) (hm : m < 40) : jx_MW 72 [jR 20 0, jI (nI pg), jI (nI n), jI (nI m)] h (fun r h' => r = nI (pv dc len n pg m) ∧ h' = h) := by
  refine jx_MW_by [some (jR 20 0), some (jI (nI pg)), some (jI (nI n)), some (jI (nI m)), none, none] (by decide) rfl (Nat.le_of_ble_eq_true rfl) (fun V rule => ?_)
  have hds : ∀ k, ds dc len k m < 16 := fun k => ds_lt hl9 (fun i hi => hd.lt hi)
  by_cases hpn : pg < n
  · refine rule (fun _ => false) 20 0 _ _ _ ?_
    refine pk_le n pg (fun q => absurd q (by omega)) (fun _ => ?_)
    refine jx_cal (S_M_symbolOf hl hl9 hd (by omega) hm) rfl (fun r h' hq => ?_)
    obtain ⟨rfl, rfl⟩ := hq
    exact And.intro (by rw [pv, if_pos hpn]) rfl
  · have loop := jl_up (P := fun k => V 18 [some (jR 20 0), some (jI (nI pg)), some (jI (nI n)), some (jI (nI m)), some (jI (nI (xs (if pg = n then (fun k => ds dc len k m) else wt (fun k => ds dc len k m)) k))), some (jI (nI k))] [] h) n
      (by
        refine rule (fun _ => false) 20 18 _ _ _ ?_
        refine pk_le n n (fun _ => ?_) (fun q => absurd q (Nat.lt_irrefl _))
        refine And.intro ?_ rfl
        rw [pv, if_neg hpn]
        by_cases hpe : pg = n
        · rw [if_pos hpe, if_pos hpe]
        · rw [if_neg hpe, if_neg hpe])
      (fun k hk ih => by
        refine rule (Nat.beq 18) 40 18 _ _ _ ?_
        refine pk_le n k (fun q => absurd q (by omega)) (fun _ => ?_)
        refine pk_eq pg n (fun q => ?_) (fun q => ?_)
        · refine jx_cal (S_M_symbolOf hl hl9 hd (by omega) hm) rfl (fun r h' hq => ?_)
          obtain ⟨rfl, rfl⟩ := hq
          refine jv_to (V := V) ih ?_ rfl rfl
          rw [if_pos q, jn_xor, nI_add]
          rfl
        · refine jx_cal (S_M_of hw (e := k) (by omega)) rfl (fun r h' hq => ?_)
          obtain ⟨rfl, rfl⟩ := hq
          refine jx_cal (S_M_symbolOf hl hl9 hd (by omega) hm) rfl (fun r h' hq => ?_)
          obtain ⟨rfl, rfl⟩ := hq
          refine jx_cal (S_M_product (gf_pw_lt k) (hds k)) rfl (fun r h' hq => ?_)
          obtain ⟨rfl, rfl⟩ := hq
          refine jv_to (V := V) ih ?_ rfl rfl
          rw [if_neg q, jn_xor, nI_add]
          rfl)
    refine rule (Nat.beq 18) 20 0 _ _ _ ?_
    refine pk_le n pg (fun _ => ?_) (fun q => absurd q (by omega))
    exact loop 0 (Nat.zero_le _)
theorem S_M_dataOf {pg n k len : Nat} {dc : Nat → Nat} {h : jxH} (hw : AR (h 23 0) 15 16 gf_pw) (hl : h 20 0 1 = nI len) (hl9 : len ≤ 80) (hd : AR (h 21 0) 80 256 dc) (hn : n ≤ 4) (hpg : pg ≤ n + 1) (hk : k < 44) : jx_MW 89 [jR 20 0, jI (nI pg), jI (nI n), jI (nI k)] h (fun r h' => r = nI (dta dc len n pg k) ∧ h' = h) := by
  refine jx_MW_by [some (jR 20 0), some (jI (nI pg)), some (jI (nI n)), some (jI (nI k))] (by decide) rfl (Nat.le_of_ble_eq_true rfl) (fun V rule => ?_)
  refine rule (fun _ => false) 40 0 _ _ _ ?_
  refine pk_eq k 0 (fun q0 => ?_) (fun q0 => ?_)
  · exact And.intro (by rw [dta, if_pos q0]) rfl
  refine pk_eq k 1 (fun q1 => ?_) (fun q1 => ?_)
  · exact And.intro (by rw [dta, if_neg q0, if_pos q1]) rfl
  refine pk_eq k 2 (fun q2 => ?_) (fun q2 => ?_)
  · refine And.intro (by decide) (And.intro ?_ rfl)
    rw [dta, if_neg q0, if_neg q1, if_pos q2, hl]
    exact jn_rem (by omega) (by decide) (by decide)
  refine pk_eq k 3 (fun q3 => ?_) (fun q3 => ?_)
  · refine And.intro (by decide) (And.intro ?_ rfl)
    rw [dta, if_neg q0, if_neg q1, if_neg q2, if_pos q3, hl]
    exact pk_div (by omega) (by decide) (by decide)
  refine jx_cal (S_M_payload (m := k - 4) hw hl hl9 hd hn hpg (by omega)) (by rw [show nI k - nI 4 = nI (k - 4) from pk_sub (show 4 ≤ k by omega)]) (fun r h' hq => ?_)
  obtain ⟨rfl, rfl⟩ := hq
  exact And.intro (by rw [dta, if_neg q0, if_neg q1, if_neg q2, if_neg q3]) rfl
theorem S_M_sumAt {j : Nat} {s : Nat → Nat} {h : jxH} (hw : AR (h 23 0) 15 16 gf_pw) (hs : AR (h 26 0) 15 16 s) (hj : j < 4) : jx_MW 74 [jR 20 0, jI (nI (j + 1))] h (fun r h' => r = nI (sy s j) ∧ h' = h) := by
  refine jx_MW_by [some (jR 20 0), some (jI (nI (j + 1))), none, none] (by decide) rfl (Nat.le_of_ble_eq_true rfl) (fun V rule => ?_)
  have loop := jl_up (P := fun n => V 4 [some (jR 20 0), some (jI (nI (j + 1))), some (jI (nI (xs (fun i => gf_ml (s i) (gf_pw (i * (j + 1)))) n))), some (jI (nI n))] [] h) 15
    (by
      refine rule (fun _ => false) 20 4 _ _ _ ?_
      refine pk_le 15 15 (fun _ => ?_) (fun q => absurd q (Nat.lt_irrefl _))
      exact And.intro rfl rfl)
    (fun n hn ih => by
      refine rule (Nat.beq 4) 30 4 _ _ _ ?_
      refine pk_le 15 n (fun q => absurd q (by omega)) (fun _ => ?_)
      refine Exists.intro n (And.intro (And.intro hn rfl) ?_)
      have hnj : n * (j + 1) < 100 := Nat.lt_of_le_of_lt (Nat.mul_le_mul (show n ≤ 14 by omega) (show j + 1 ≤ 4 by omega)) (by decide)
      refine jx_cal (S_M_of hw (e := n * (j + 1)) (by omega)) (by rw [pk_mul]) (fun q h2 hq => ?_)
      obtain ⟨rfl, rfl⟩ := hq
      refine jx_cal (S_M_product (hs.lt hn) (gf_pw_lt _)) (by rw [hs.at hn]) (fun q h2 hq => ?_)
      obtain ⟨rfl, rfl⟩ := hq
      exact jv_to (V := V) ih (by rw [jn_xor, nI_add]; rfl) rfl rfl)
  refine rule (Nat.beq 4) 10 0 _ _ _ ?_
  exact loop 0 (Nat.zero_le _)
theorem or_0 {a b : Nat} : a ||| b = 0 ↔ a = 0 ∧ b = 0 := Nat.or_eq_zero_iff
theorem S_M_isWord {s : Nat → Nat} {h : jxH} (hw : AR (h 23 0) 15 16 gf_pw) (hs : AR (h 26 0) 15 16 s) : jx_MW 90 [jR 20 0] h (fun r h' => r = nI (decide (sy s 0 ||| sy s 1 ||| sy s 2 ||| sy s 3 = 0)).toNat ∧ h' = h) := by
  refine jx_MW_by [some (jR 20 0)] (by decide) rfl (Nat.le_of_ble_eq_true rfl) (fun V rule => ?_)
  refine rule (fun _ => false) 40 0 _ _ _ ?_
  have l0 := sy_lt s 0
  have l1 := sy_lt s 1
  have l2 := sy_lt s 2
  have l3 := sy_lt s 3
  refine jx_cal (S_M_sumAt (j := 0) hw hs (by decide)) rfl (fun q h2 hq => ?_)
  obtain ⟨rfl, rfl⟩ := hq
  refine pk_eq (sy s 0) 0 (fun q0 => ?_) (fun q0 => ?_)
  · refine jx_cal (S_M_sumAt (j := 1) hw hs (by decide)) rfl (fun q h2 hq => ?_)
    obtain ⟨rfl, rfl⟩ := hq
    refine pk_eq (sy s 1) 0 (fun q1 => ?_) (fun q1 => ?_)
    · refine jx_cal (S_M_sumAt (j := 2) hw hs (by decide)) rfl (fun q h2 hq => ?_)
      obtain ⟨rfl, rfl⟩ := hq
      refine pk_eq (sy s 2) 0 (fun q2 => ?_) (fun q2 => ?_)
      · refine jx_cal (S_M_sumAt (j := 3) hw hs (by decide)) rfl (fun q h2 hq => ?_)
        obtain ⟨rfl, rfl⟩ := hq
        refine pk_eq (sy s 3) 0 (fun q3 => ?_) (fun q3 => ?_)
        · exact And.intro (Or.inr rfl) (And.intro (by rw [q0, q1, q2, q3]; rfl) rfl)
        · exact And.intro (Or.inl rfl) (And.intro (by rw [decide_eq_false (fun z => q3 (or_0.mp z).2)]; rfl) rfl)
      · exact And.intro (Or.inl rfl) (And.intro (by rw [decide_eq_false (fun z => q2 (or_0.mp (or_0.mp z).1).2)]; rfl) rfl)
    · exact And.intro (Or.inl rfl) (And.intro (by rw [decide_eq_false (fun z => q1 (or_0.mp (or_0.mp (or_0.mp z).1).1).2)]; rfl) rfl)
  · exact And.intro (Or.inl rfl) (And.intro (by rw [decide_eq_false (fun z => q0 (or_0.mp (or_0.mp (or_0.mp z).1).1).1)]; rfl) rfl)
/-- e at i and f at k bring the sums -/
def ft1 (S : Nat → Nat) (i e k f j : Nat) : Bool := decide (S j = gf_ml e (gf_pw ((j + 1) * i)) ^^^ gf_ml f (gf_pw ((j + 1) * k)))
def fta (S : Nat → Nat) (i e k f : Nat) : Nat → Bool
  | 0 => true
  | j + 1 => fta S i e k f j && ft1 S i e k f j
theorem S_M_fits {i e k f : Nat} {S : Nat → Nat} {h : jxH} (hw : AR (h 23 0) 15 16 gf_pw) (hS : ∀ j, j < 4 → h 27 0 (j + 1) = nI (S j) ∧ S j < 16) (hi : i < 15) (he : e < 16) (hk : k < 15) (hf : f < 16) : jx_MW 67 [jR 20 0, jI (nI i), jI (nI e), jI (nI k), jI (nI f)] h (fun r h' => r = nI (fta S i e k f 4).toNat ∧ h' = h) := by
  refine jx_MW_by [some (jR 20 0), some (jI (nI i)), some (jI (nI e)), some (jI (nI k)), some (jI (nI f)), none, none] (by decide) rfl (Nat.le_of_ble_eq_true rfl) (fun V rule => ?_)
  have loop := jl_up (P := fun j => V 6 [some (jR 20 0), some (jI (nI i)), some (jI (nI e)), some (jI (nI k)), some (jI (nI f)), some (jI (nI (fta S i e k f j).toNat)), some (jI (nI (j + 1)))] [] h) 4
    (by
      refine rule (fun _ => false) 20 6 _ _ _ ?_
      refine pk_le 5 5 (fun _ => ?_) (fun q => absurd q (Nat.lt_irrefl _))
      have b01 : nI (fta S i e k f 4).toNat = nI 0 ∨ nI (fta S i e k f 4).toNat = nI 1 := by cases fta S i e k f 4; exact Or.inl rfl; exact Or.inr rfl
      exact And.intro b01 (And.intro rfl rfl))
    (fun j hj ih => by
      refine rule (Nat.beq 6) 60 6 _ _ _ ?_
      refine pk_le 5 (j + 1) (fun q => absurd q (by omega)) (fun _ => ?_)
      refine pk_eq (fta S i e k f j).toNat 0 (fun q => ?_) (fun q => ?_) rfl rfl (by have := toNat_le (fta S i e k f j); omega) (by decide)
      · exact jv_to (V := V) ih (by rw [nI_add, fta, tn0 q]; rfl) rfl rfl
      · refine Exists.intro (j + 1) (And.intro (And.intro (by omega) rfl) ?_)
        have hij : (j + 1) * i < 100 := Nat.lt_of_le_of_lt (Nat.mul_le_mul (show j + 1 ≤ 4 by omega) (show i ≤ 14 by omega)) (by decide)
        have hkj : (j + 1) * k < 100 := Nat.lt_of_le_of_lt (Nat.mul_le_mul (show j + 1 ≤ 4 by omega) (show k ≤ 14 by omega)) (by decide)
        refine jx_cal (S_M_of hw (e := (j + 1) * i) (by omega)) (by rw [pk_mul]) (fun q h2 hq => ?_)
        obtain ⟨rfl, rfl⟩ := hq
        refine jx_cal (S_M_product he (gf_pw_lt _)) rfl (fun q h2 hq => ?_)
        obtain ⟨rfl, rfl⟩ := hq
        refine jx_cal (S_M_of hw (e := (j + 1) * k) (by omega)) (by rw [pk_mul]) (fun q h2 hq => ?_)
        obtain ⟨rfl, rfl⟩ := hq
        refine jx_cal (S_M_product hf (gf_pw_lt _)) rfl (fun q h2 hq => ?_)
        obtain ⟨rfl, rfl⟩ := hq
        have x16 : gf_ml e (gf_pw ((j + 1) * i)) ^^^ gf_ml f (gf_pw ((j + 1) * k)) < 16 := gf_xor_lt (gf_ml_lt _ _) (gf_ml_lt _ _)
        have s16 := (hS j hj).2
        refine pk_eq (S j) (gf_ml e (gf_pw ((j + 1) * i)) ^^^ gf_ml f (gf_pw ((j + 1) * k))) (fun z => ?_) (fun z => ?_) (hS j hj).1 (by rw [jn_xor])
        · exact jv_to (V := V) ih (by rw [nI_add, fta, tn1 q, ft1, decide_eq_true z]; rfl) rfl rfl
        · exact jv_to (V := V) ih (by rw [nI_add, fta, tn1 q, ft1, decide_eq_false z]; rfl) rfl rfl)
  refine rule (Nat.beq 6) 10 0 _ _ _ ?_
  exact loop 0 (Nat.zero_le _)
