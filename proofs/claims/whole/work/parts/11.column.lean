/-! Loops; stores; Column. -/
theorem jl_up {P : Nat → Prop} (n : Nat) (hn : P n) (hs : ∀ i, i < n → P (i + 1) → P i) : ∀ i, i ≤ n → P i := by
  have key : ∀ d i, i + d = n → P i := by
    intro d
    induction d with
    | zero => intro i hi; rw [show i = n by omega]; exact hn
    | succ d ih => intro i hi; exact hs i (by omega) (ih (i + 1) (by omega))
  intro i hi
  exact key (n - i) i (by omega)
/-- a leaf whose locals, stack and heap are known under other names -/
theorem jv_to {V : Nat → jxL → List jxV → jxH → Prop} {pc : Nat} {ls ls' : jxL} {st st' : List jxV} {h h' : jxH} (hv : V pc ls' st' h') (e1 : ls = ls') (e2 : st = st') (e3 : h = h') : V pc ls st h := by
  subst e1 e2 e3
  exact hv
theorem jx_st_id (h : jxH) (k i : Nat) : jx_st h k i (h k i) = h := by
  funext k' i'
  unfold jx_st
  by_cases hk : k' = k
  · by_cases hi : i' = i
    · rw [if_pos hk, if_pos hi, hk, hi]
    · rw [if_pos hk, if_neg hi]
  · rw [if_neg hk]
theorem jx_st_st (h : jxH) (k i : Nat) (f g : Nat → Int32) : jx_st (jx_st h k i f) k i g = jx_st h k i g := by
  funext k' i'
  unfold jx_st
  by_cases hk : k' = k
  · by_cases hi : i' = i
    · rw [if_pos hk, if_pos hi, if_pos hk, if_pos hi]
    · rw [if_pos hk, if_neg hi, if_pos hk, if_neg hi, if_pos hk, if_neg hi]
  · rw [if_neg hk, if_neg hk, if_neg hk]
theorem upd_same (f : Nat → Int32) (k : Nat) (x : Int32) : upd f k x k = x := by simp [upd]
theorem upd_ne (f : Nat → Int32) {k j : Nat} (x : Int32) (h : j ≠ k) : upd f k x j = f j := by simp [upd, h]
/-- an array that holds naturals below m in its first n places -/
def AR (f : Nat → Int32) (n m : Nat) (s : Nat → Nat) : Prop := ∀ k, k < n → f k = nI (s k) ∧ s k < m
theorem AR.at {f : Nat → Int32} {n m : Nat} {s : Nat → Nat} (h : AR f n m s) {k : Nat} (hk : k < n) : f k = nI (s k) := (h k hk).1
theorem AR.lt {f : Nat → Int32} {n m : Nat} {s : Nat → Nat} (h : AR f n m s) {k : Nat} (hk : k < n) : s k < m := (h k hk).2
def nup (s : Nat → Nat) (k v : Nat) : Nat → Nat := fun j => if j = k then v else s j
theorem nup_same (s : Nat → Nat) (k v : Nat) : nup s k v k = v := by simp [nup]
theorem nup_ne (s : Nat → Nat) {k j : Nat} (v : Nat) (h : j ≠ k) : nup s k v j = s j := by simp [nup, h]
theorem AR.put {f : Nat → Int32} {n m : Nat} {s : Nat → Nat} (h : AR f n m s) {k v : Nat} (hv : v < m) : AR (upd f k (nI v)) n m (nup s k v) := by
  intro j hj
  by_cases hjk : j = k
  · subst hjk
    rw [upd_same, nup_same]
    exact ⟨rfl, hv⟩
  · rw [upd_ne _ _ hjk, nup_ne _ _ hjk]
    exact h j hj
theorem AR.congr {f : Nat → Int32} {n m : Nat} {s s' : Nat → Nat} (h : AR f n m s) (he : ∀ k, k < n → s' k = s k) : AR f n m s' := by
  intro k hk
  rw [he k hk]
  exact h k hk
def xs (s : Nat → Nat) : Nat → Nat
  | 0 => 0
  | n + 1 => xs s n ^^^ s n
theorem xs_lt {s : Nat → Nat} : ∀ {n : Nat}, (∀ k, k < n → s k < 16) → xs s n < 16
  | 0, _ => Nat.succ_pos 15
  | n + 1, h => gf_xor_lt (xs_lt (fun k hk => h k (Nat.lt_succ_of_lt hk))) (h n (Nat.lt_succ_self n))
theorem xs_congr {s t : Nat → Nat} : ∀ {n : Nat}, (∀ k, k < n → s k = t k) → xs s n = xs t n
  | 0, _ => rfl
  | n + 1, h => by
    show xs s n ^^^ s n = xs t n ^^^ t n
    rw [xs_congr (fun k hk => h k (Nat.lt_succ_of_lt hk)), h n (Nat.lt_succ_self n)]
/-- the weighted symbols -/
def wt (s : Nat → Nat) : Nat → Nat := fun k => gf_ml (gf_pw k) (s k)
theorem S_Col_get {c k m : Nat} {s : Nat → Nat} {h : jxH} (hs : AR (h 10 c) 6 m s) (hk : k < 6) : jx_MW 11 [jR 9 c, jI (nI k)] h (fun r h' => r = nI (s k) ∧ h' = h) := by
  refine jx_MW_by [some (jR 9 c), some (jI (nI k))] (by decide) rfl (Nat.le_of_ble_eq_true rfl) (fun V rule => ?_)
  refine rule (fun _ => false) 10 0 _ _ _ ?_
  refine Exists.intro k (And.intro (And.intro hk rfl) ?_)
  exact And.intro (hs.at hk) rfl
theorem S_Col_set {c k : Nat} {v : Int32} {h : jxH} (hk : k < 6) : jx_MW 13 [jR 9 c, jI (nI k), jI v] h (fun _ h' => h' = jx_st h 10 c (upd (h 10 c) k v)) := by
  refine jx_MW_by [some (jR 9 c), some (jI (nI k)), some (jI v)] (by decide) rfl (Nat.le_of_ble_eq_true rfl) (fun V rule => ?_)
  refine rule (fun _ => false) 10 0 _ _ _ ?_
  refine Exists.intro k (And.intro (And.intro hk rfl) ?_)
  exact rfl
theorem S_Col_plainSum {c n : Nat} {s : Nat → Nat} {h : jxH} (hs : AR (h 10 c) 6 16 s) (hn : n ≤ 6) : jx_MW 12 [jR 9 c, jI (nI n)] h (fun r h' => r = nI (xs s n) ∧ h' = h) := by
  refine jx_MW_by [some (jR 9 c), some (jI (nI n)), none, none] (by decide) rfl (Nat.le_of_ble_eq_true rfl) (fun V rule => ?_)
  have loop := jl_up (P := fun i => V 4 [some (jR 9 c), some (jI (nI n)), some (jI (nI (xs s i))), some (jI (nI i))] [] h) n
    (by
      refine rule (fun _ => false) 10 4 _ _ _ ?_
      refine pk_le n n (fun _ => ?_) (fun q => absurd q (Nat.lt_irrefl _))
      exact And.intro rfl rfl)
    (fun i hi ih => by
      refine rule (Nat.beq 4) 20 4 _ _ _ ?_
      refine pk_le n i (fun q => absurd q (by omega)) (fun _ => ?_)
      refine Exists.intro i (And.intro (And.intro (by omega) rfl) ?_)
      exact jv_to ih (by rw [hs.at (show i < 6 by omega), jn_xor, nI_add]; rfl) rfl rfl)
  refine rule (Nat.beq 4) 10 0 _ _ _ ?_
  exact loop 0 (Nat.zero_le _)
theorem S_Col_weightedSum {c n : Nat} {s : Nat → Nat} {h : jxH} (hs : AR (h 10 c) 6 16 s) (hn : n ≤ 6) : jx_MW 59 [jR 9 c, jI (nI n)] h (fun r h' => r = nI (xs (wt s) n) ∧ h' = h) := by
  refine jx_MW_by [some (jR 9 c), some (jI (nI n)), none, none] (by decide) rfl (Nat.le_of_ble_eq_true rfl) (fun V rule => ?_)
  have loop := jl_up (P := fun i => V 4 [some (jR 9 c), some (jI (nI n)), some (jI (nI (xs (wt s) i))), some (jI (nI i))] [] h) n
    (by
      refine rule (fun _ => false) 10 4 _ _ _ ?_
      refine pk_le n n (fun _ => ?_) (fun q => absurd q (Nat.lt_irrefl _))
      exact And.intro rfl rfl)
    (fun i hi ih => by
      refine rule (Nat.beq 4) 20 4 _ _ _ ?_
      refine pk_le n i (fun q => absurd q (by omega)) (fun _ => ?_)
      refine jx_cal (S_power (e := i) (by omega)) rfl (fun r h' hq => ?_)
      obtain ⟨rfl, rfl⟩ := hq
      refine Exists.intro i (And.intro (And.intro (by omega) rfl) ?_)
      refine jx_cal (S_product (gf_pw_lt i) (hs.lt (show i < 6 by omega))) (by rw [hs.at (show i < 6 by omega)]) (fun r h' hq => ?_)
      obtain ⟨rfl, rfl⟩ := hq
      exact jv_to ih (by rw [jn_xor, nI_add]; rfl) rfl rfl)
  refine rule (Nat.beq 4) 10 0 _ _ _ ?_
  exact loop 0 (Nat.zero_le _)
theorem S_Col_addSpares {c n : Nat} {s : Nat → Nat} {h : jxH} (hs : AR (h 10 c) 6 16 s) (hn : n ≤ 4) : jx_MW 85 [jR 9 c, jI (nI n)] h (fun _ h' => ∃ f, h' = jx_st h 10 c f ∧ AR f 6 16 (nup (nup s n (xs s n)) (n + 1) (xs (wt s) n))) := by
  refine jx_MW_by [some (jR 9 c), some (jI (nI n))] (by decide) rfl (Nat.le_of_ble_eq_true rfl) (fun V rule => ?_)
  refine rule (fun _ => false) 30 0 _ _ _ ?_
  refine jx_cal (S_Col_plainSum hs (by omega)) rfl (fun r h' hq => ?_)
  obtain ⟨rfl, rfl⟩ := hq
  refine Exists.intro n (And.intro (And.intro (by omega) rfl) ?_)
  have hx : xs s n < 16 := xs_lt (fun k hk => hs.lt (by omega))
  have hs1 : AR (jx_st h' 10 c (upd (h' 10 c) n (nI (xs s n))) 10 c) 6 16 (nup s n (xs s n)) := by
    rw [jx_st_same]
    exact hs.put hx
  refine jx_cal (S_Col_weightedSum hs1 (by omega)) rfl (fun r h2 hq => ?_)
  obtain ⟨rfl, rfl⟩ := hq
  refine Exists.intro (n + 1) (And.intro (And.intro (by omega) (nI_add n 1)) ?_)
  have e : xs (wt (nup s n (xs s n))) n = xs (wt s) n := xs_congr (fun k hk => by unfold wt; rw [nup_ne _ _ (by omega)])
  refine Exists.intro (upd (upd (h' 10 c) n (nI (xs s n))) (n + 1) (nI (xs (wt s) n))) (And.intro ?_ ?_)
  · rw [e, jx_st_same, jx_st_st]
  · exact (hs.put hx).put (xs_lt (fun k hk => gf_ml_lt _ _))
theorem S_Col_restoreByPlain {c n l : Nat} {s : Nat → Nat} {h : jxH} (hs : AR (h 10 c) 6 16 s) (hn : n ≤ 4) (hl : l < 6) : jx_MW 58 [jR 9 c, jI (nI n), jI (nI l)] h (fun _ h' => ∃ f, h' = jx_st h 10 c f ∧ AR f 6 16 (nup s l (s n ^^^ xs s n))) := by
  refine jx_MW_by [some (jR 9 c), some (jI (nI n)), some (jI (nI l))] (by decide) rfl (Nat.le_of_ble_eq_true rfl) (fun V rule => ?_)
  refine rule (fun _ => false) 30 0 _ _ _ ?_
  refine Exists.intro n (And.intro (And.intro (by omega) rfl) ?_)
  refine jx_cal (S_Col_plainSum hs (by omega)) rfl (fun r h' hq => ?_)
  obtain ⟨rfl, rfl⟩ := hq
  refine Exists.intro l (And.intro (And.intro hl rfl) ?_)
  have hx : xs s n < 16 := xs_lt (fun k hk => hs.lt (by omega))
  refine Exists.intro (upd (h' 10 c) l (nI (s n ^^^ xs s n))) (And.intro ?_ (hs.put (gf_xor_lt (hs.lt (by omega)) hx)))
  rw [hs.at (show n < 6 by omega), jn_xor]
theorem S_Col_restoreByWeighted {c n l : Nat} {s : Nat → Nat} {h : jxH} (hs : AR (h 10 c) 6 16 s) (hn : n ≤ 4) (hl : l < 6) : jx_MW 86 [jR 9 c, jI (nI n), jI (nI l)] h (fun _ h' => ∃ f, h' = jx_st h 10 c f ∧ AR f 6 16 (nup s l (gf_qt (s (n + 1) ^^^ xs (wt s) n) (gf_pw l)))) := by
  refine jx_MW_by [some (jR 9 c), some (jI (nI n)), some (jI (nI l)), none] (by decide) rfl (Nat.le_of_ble_eq_true rfl) (fun V rule => ?_)
  refine rule (fun _ => false) 40 0 _ _ _ ?_
  refine Exists.intro (n + 1) (And.intro (And.intro (by omega) (nI_add n 1)) ?_)
  refine jx_cal (S_Col_weightedSum hs (by omega)) rfl (fun r h' hq => ?_)
  obtain ⟨rfl, rfl⟩ := hq
  refine jx_cal (S_power (e := l) (by omega)) rfl (fun r h2 hq => ?_)
  obtain ⟨rfl, rfl⟩ := hq
  have hx : xs (wt s) n < 16 := xs_lt (fun k hk => gf_ml_lt _ _)
  refine jx_cal (S_quotient (gf_xor_lt (hs.lt (show n + 1 < 6 by omega)) hx) (gf_pw_lt l)) (by rw [hs.at (show n + 1 < 6 by omega), jn_xor]) (fun r h3 hq => ?_)
  obtain ⟨rfl, rfl⟩ := hq
  refine Exists.intro l (And.intro (And.intro hl rfl) ?_)
  exact Exists.intro _ (And.intro rfl (hs.put (gf_qt_lt _ _)))
theorem S_Col_restoreTwo {c n a b : Nat} {s : Nat → Nat} {h : jxH} (hs : AR (h 10 c) 6 16 s) (hn : n ≤ 4) (ha : a < 6) (hb : b < 6) : jx_MW 87 [jR 9 c, jI (nI n), jI (nI a), jI (nI b)] h (fun _ h' => ∃ f, h' = jx_st h 10 c f ∧ AR f 6 16 (nup (nup s b (gf_s2 (s n ^^^ xs s n) (s (n + 1) ^^^ xs (wt s) n) (gf_pw a) (gf_pw b))) a ((s n ^^^ xs s n) ^^^ gf_s2 (s n ^^^ xs s n) (s (n + 1) ^^^ xs (wt s) n) (gf_pw a) (gf_pw b)))) := by
  refine jx_MW_by [some (jR 9 c), some (jI (nI n)), some (jI (nI a)), some (jI (nI b)), none, none] (by decide) rfl (Nat.le_of_ble_eq_true rfl) (fun V rule => ?_)
  refine rule (fun _ => false) 60 0 _ _ _ ?_
  refine Exists.intro n (And.intro (And.intro (by omega) rfl) ?_)
  refine jx_cal (S_Col_plainSum hs (by omega)) rfl (fun r h' hq => ?_)
  obtain ⟨rfl, rfl⟩ := hq
  refine Exists.intro (n + 1) (And.intro (And.intro (by omega) (nI_add n 1)) ?_)
  refine jx_cal (S_Col_weightedSum hs (by omega)) rfl (fun r h2 hq => ?_)
  obtain ⟨rfl, rfl⟩ := hq
  refine jx_cal (S_power (e := a) (by omega)) rfl (fun r h2 hq => ?_)
  obtain ⟨rfl, rfl⟩ := hq
  refine jx_cal (S_power (e := b) (by omega)) rfl (fun r h2 hq => ?_)
  obtain ⟨rfl, rfl⟩ := hq
  have hx : xs s n < 16 := xs_lt (fun k hk => hs.lt (by omega))
  have hw : xs (wt s) n < 16 := xs_lt (fun k hk => gf_ml_lt _ _)
  have hp : s n ^^^ xs s n < 16 := gf_xor_lt (hs.lt (by omega)) hx
  have hq9 : s (n + 1) ^^^ xs (wt s) n < 16 := gf_xor_lt (hs.lt (by omega)) hw
  refine jx_cal (S_secondOfTwo hp hq9 (gf_pw_lt a) (gf_pw_lt b)) (by rw [hs.at (show n < 6 by omega), hs.at (show n + 1 < 6 by omega), jn_xor, jn_xor]) (fun r h2 hq => ?_)
  obtain ⟨rfl, rfl⟩ := hq
  refine Exists.intro b (And.intro (And.intro hb rfl) ?_)
  refine Exists.intro b (And.intro (And.intro hb rfl) ?_)
  refine Exists.intro a (And.intro (And.intro ha rfl) ?_)
  have hv : gf_s2 (s n ^^^ xs s n) (s (n + 1) ^^^ xs (wt s) n) (gf_pw a) (gf_pw b) < 16 := gf_qt_lt _ _
  refine Exists.intro (upd (upd (h2 10 c) b (nI (gf_s2 (s n ^^^ xs s n) (s (n + 1) ^^^ xs (wt s) n) (gf_pw a) (gf_pw b)))) a (nI ((s n ^^^ xs s n) ^^^ gf_s2 (s n ^^^ xs s n) (s (n + 1) ^^^ xs (wt s) n) (gf_pw a) (gf_pw b)))) (And.intro ?_ ((hs.put hv).put (gf_xor_lt hp hv)))
  rw [jx_st_same, jx_st_st, upd_same, hs.at (show n < 6 by omega), jn_xor, jn_xor]
