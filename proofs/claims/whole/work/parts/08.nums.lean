/-! Numbers: ints that are naturals; the field of sixteen symbols. (js_l, jn_and, jn_xor began as rows of the kit's BITS.to-paste.) -/
theorem js_l : ∀ n, n < 32 → ((nI n &&& 31).toBitVec.smod 32).toNat = n := by decide +kernel
theorem jn_and (a b : Nat) : nI a &&& nI b = nI (a &&& b) := by
  apply Int32.toBitVec_inj.1
  show BitVec.ofNat 32 a &&& BitVec.ofNat 32 b = BitVec.ofNat 32 (a &&& b)
  apply BitVec.eq_of_getLsbD_eq
  intro i hi
  simp [hi]
theorem jn_or (a b : Nat) : nI a ||| nI b = nI (a ||| b) := by
  apply Int32.toBitVec_inj.1
  show BitVec.ofNat 32 a ||| BitVec.ofNat 32 b = BitVec.ofNat 32 (a ||| b)
  apply BitVec.eq_of_getLsbD_eq
  intro i hi
  simp [hi]
theorem jn_xor (a b : Nat) : nI a ^^^ nI b = nI (a ^^^ b) := by
  apply Int32.toBitVec_inj.1
  show BitVec.ofNat 32 a ^^^ BitVec.ofNat 32 b = BitVec.ofNat 32 (a ^^^ b)
  apply BitVec.eq_of_getLsbD_eq
  intro i hi
  simp [hi]
theorem jn_shl {a k : Nat} (hk : k < 32) (h : a * 2 ^ k < 2 ^ 32) : nI a <<< (nI k &&& 31) = nI (a * 2 ^ k) := pk_shlN _ k (js_l k hk) h
theorem jn_shr {a k : Nat} (hk : k < 32) (h : a < 2 ^ 31) : nI a >>> (nI k &&& 31) = nI (a / 2 ^ k) := pk_shrN h _ k (js_l k hk)
theorem jn_rem {a d : Nat} (ha : a < 2 ^ 31) (h0 : 0 < d) (hd : d < 2 ^ 31) : nI a - nI a / nI d * nI d = nI (a % d) := pk_rem ha h0 hd
theorem jn_inj {a b : Nat} (ha : a < 2 ^ 31) (hb : b < 2 ^ 31) (h : nI a = nI b) : a = b := (nI_eq ha hb).mp h
/-- a call whose arguments are known under other names -/
theorem jx_cal {κ : Nat} {as as' : List jxV} {h : jxH} {E E' : Int32 → jxH → Prop} (hM : jx_MW κ as' h E') (ha : as = as') (k : ∀ r h', E' r h' → E r h') : jx_MW κ as h E := by
  subst ha
  exact jx_MW_mono hM k
-- the field
def gf_P : List Nat := [1, 2, 4, 8, 3, 6, 12, 11, 5, 10, 7, 14, 15, 13, 9]
def gf_X : List Nat := [0, 0, 1, 4, 2, 8, 5, 10, 3, 14, 9, 7, 6, 13, 11, 12]
def gf_pw (e : Nat) : Nat := gf_P.getD (e % 15) 0
def gf_ml (a b : Nat) : Nat := if a = 0 then 0 else if b = 0 then 0 else gf_pw (gf_X.getD a 0 + gf_X.getD b 0)
def gf_qt (a b : Nat) : Nat := if a = 0 then 0 else if b = 0 then 0 else gf_pw (gf_X.getD a 0 + 15 - gf_X.getD b 0)
theorem gf_pw_a : ∀ e, e < 15 → 0 < gf_P.getD e 0 ∧ gf_P.getD e 0 < 16 := by decide +kernel
theorem gf_pw_lt (e : Nat) : gf_pw e < 16 := (gf_pw_a (e % 15) (Nat.mod_lt _ (by decide))).2
theorem gf_pw_pos (e : Nat) : 0 < gf_pw e := (gf_pw_a (e % 15) (Nat.mod_lt _ (by decide))).1
theorem gf_X_lt : ∀ a, a < 16 → gf_X.getD a 0 < 15 := by decide +kernel
theorem gf_ml_lt (a b : Nat) : gf_ml a b < 16 := by
  unfold gf_ml
  split
  · decide
  · split
    · decide
    · exact gf_pw_lt _
theorem gf_qt_lt (a b : Nat) : gf_qt a b < 16 := by
  unfold gf_qt
  split
  · decide
  · split
    · decide
    · exact gf_pw_lt _
theorem gf_xor_lt {a b : Nat} (ha : a < 16) (hb : b < 16) : a ^^^ b < 16 := Nat.xor_lt_two_pow (n := 4) ha hb
theorem gf_pw_mod (e : Nat) : gf_pw (e % 15) = gf_pw e := by simp [gf_pw]
