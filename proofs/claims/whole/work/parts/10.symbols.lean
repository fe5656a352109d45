/-! Symbols: power, product, quotient, secondOfTwo. -/
theorem S_power {e : Nat} {h : jxH} (he : e < 2 ^ 31) : jx_MW 42 [jI (nI e)] h (fun r h' => r = nI (gf_pw e) ∧ h' = h) := by
  refine jx_MW_by [some (jI (nI e))] (by decide) rfl (Nat.le_of_ble_eq_true rfl) (fun V rule => ?_)
  refine rule (fun _ => false) 10 0 _ _ _ ?_
  refine And.intro (by decide) ?_
  refine Exists.intro (e % 15) (And.intro (And.intro (Nat.mod_lt _ (by decide)) (jn_rem he (by decide) (by decide))) ?_)
  exact And.intro rfl rfl
theorem S_product {a b : Nat} {h : jxH} (ha : a < 16) (hb : b < 16) : jx_MW 43 [jI (nI a), jI (nI b)] h (fun r h' => r = nI (gf_ml a b) ∧ h' = h) := by
  refine jx_MW_by [some (jI (nI a)), some (jI (nI b))] (by decide) rfl (Nat.le_of_ble_eq_true rfl) (fun V rule => ?_)
  refine rule (fun _ => false) 40 0 _ _ _ ?_
  have xa := gf_X_lt a ha
  have xb := gf_X_lt b hb
  refine pk_eq a 0 (fun h0 => ?_) (fun h0 => ?_)
  · refine And.intro ?_ rfl
    rw [gf_ml, if_pos h0]
  · refine pk_eq b 0 (fun h1 => ?_) (fun h1 => ?_)
    · refine And.intro ?_ rfl
      rw [gf_ml, if_neg h0, if_pos h1]
    · refine Exists.intro a (And.intro (And.intro ha rfl) ?_)
      refine Exists.intro b (And.intro (And.intro hb rfl) ?_)
      refine And.intro (by decide) ?_
      refine Exists.intro ((gf_X.getD a 0 + gf_X.getD b 0) % 15) (And.intro (And.intro (Nat.mod_lt _ (by decide)) ?_) ?_)
      · show nI (gf_X.getD a 0) + nI (gf_X.getD b 0) - (nI (gf_X.getD a 0) + nI (gf_X.getD b 0)) / nI 15 * nI 15 = _
        rw [nI_add]
        exact jn_rem (by omega) (by decide) (by decide)
      · refine And.intro ?_ rfl
        rw [gf_ml, if_neg h0, if_neg h1]
        rfl
theorem S_quotient {a b : Nat} {h : jxH} (ha : a < 16) (hb : b < 16) : jx_MW 44 [jI (nI a), jI (nI b)] h (fun r h' => r = nI (gf_qt a b) ∧ h' = h) := by
  refine jx_MW_by [some (jI (nI a)), some (jI (nI b))] (by decide) rfl (Nat.le_of_ble_eq_true rfl) (fun V rule => ?_)
  refine rule (fun _ => false) 40 0 _ _ _ ?_
  have xa := gf_X_lt a ha
  have xb := gf_X_lt b hb
  refine pk_eq a 0 (fun h0 => ?_) (fun h0 => ?_)
  · refine And.intro ?_ rfl
    rw [gf_qt, if_pos h0]
  · refine pk_eq b 0 (fun h1 => ?_) (fun h1 => ?_)
    · refine And.intro ?_ rfl
      rw [gf_qt, if_neg h0, if_pos h1]
    · refine Exists.intro a (And.intro (And.intro ha rfl) ?_)
      refine Exists.intro b (And.intro (And.intro hb rfl) ?_)
      refine And.intro (by decide) ?_
      refine Exists.intro ((gf_X.getD a 0 + 15 - gf_X.getD b 0) % 15) (And.intro (And.intro (Nat.mod_lt _ (by decide)) ?_) ?_)
      · show nI (gf_X.getD a 0) + nI 15 - nI (gf_X.getD b 0) - (nI (gf_X.getD a 0) + nI 15 - nI (gf_X.getD b 0)) / nI 15 * nI 15 = _
        rw [nI_add, pk_sub (by omega)]
        exact jn_rem (by omega) (by decide) (by decide)
      · refine And.intro ?_ rfl
        rw [gf_qt, if_neg h0, if_neg h1]
        rfl
/-- the v of u + v = p, a u + b v = w -/
def gf_s2 (p w a b : Nat) : Nat := gf_qt (w ^^^ gf_ml a p) (a ^^^ b)
theorem S_secondOfTwo {p w a b : Nat} {h : jxH} (hp : p < 16) (hw : w < 16) (ha : a < 16) (hb : b < 16) : jx_MW 75 [jI (nI p), jI (nI w), jI (nI a), jI (nI b)] h (fun r h' => r = nI (gf_s2 p w a b) ∧ h' = h) := by
  refine jx_MW_by [some (jI (nI p)), some (jI (nI w)), some (jI (nI a)), some (jI (nI b))] (by decide) rfl (Nat.le_of_ble_eq_true rfl) (fun V rule => ?_)
  refine rule (fun _ => false) 20 0 _ _ _ ?_
  refine jx_cal (S_product ha hp) rfl (fun r h' hq => ?_)
  obtain ⟨rfl, rfl⟩ := hq
  refine jx_cal (S_quotient (gf_xor_lt hw (gf_ml_lt a p)) (gf_xor_lt ha hb)) (by rw [jn_xor, jn_xor]) (fun r h' hq => ?_)
  exact hq
