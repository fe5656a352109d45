/-! Row: sums, correction, completion, drawing, lifting. -/
theorem AR.st {f : Nat → Int32} {n m : Nat} {s : Nat → Nat} (h : jxH) (k p : Nat) (hf : AR f n m s) : AR (jx_st h k p f k p) n m s := by
  rw [jx_st_same]
  exact hf
/-- sum number j (from 0) of a row -/
def sy (s : Nat → Nat) (j : Nat) : Nat := xs (fun i => gf_ml (s i) (gf_pw (i * (j + 1)))) 15
theorem sy_lt (s : Nat → Nat) (j : Nat) : sy s j < 16 := xs_lt (fun _ _ => gf_ml_lt _ _)
theorem S_Row_isWord {i : Nat} {u : Nat → Nat} {h : jxH} (hu : AR (h 8 i) 4 16 u) : jx_MW 10 [jR 6 i] h (fun r h' => r = nI (decide (u 0 ||| u 1 ||| u 2 ||| u 3 = 0)).toNat ∧ h' = h) := by
  refine jx_MW_by [some (jR 6 i)] (by decide) rfl (Nat.le_of_ble_eq_true rfl) (fun V rule => ?_)
  refine rule (fun _ => false) 40 0 _ _ _ ?_
  refine Exists.intro 0 (And.intro (And.intro (by decide) rfl) ?_)
  refine Exists.intro 1 (And.intro (And.intro (by decide) rfl) ?_)
  refine Exists.intro 2 (And.intro (And.intro (by decide) rfl) ?_)
  refine Exists.intro 3 (And.intro (And.intro (by decide) rfl) ?_)
  have l4 : u 0 ||| u 1 ||| u 2 ||| u 3 < 2 ^ 4 := Nat.or_lt_two_pow (Nat.or_lt_two_pow (Nat.or_lt_two_pow (hu.lt (by decide)) (hu.lt (by decide))) (hu.lt (by decide))) (hu.lt (by decide))
  refine pk_eq (u 0 ||| u 1 ||| u 2 ||| u 3) 0 (fun q => ?_) (fun q => ?_) (by rw [hu.at (show 0 < 4 by decide), hu.at (show 1 < 4 by decide), hu.at (show 2 < 4 by decide), hu.at (show 3 < 4 by decide), jn_or, jn_or, jn_or]) rfl
  · exact And.intro (Or.inr rfl) (And.intro (by simp [q]) rfl)
  · exact And.intro (Or.inl rfl) (And.intro (by simp [q]) rfl)
theorem S_Row_findSums {i : Nat} {s : Nat → Nat} {h : jxH} (hs : AR (h 7 i) 15 16 s) : jx_MW 54 [jR 6 i] h (fun _ h' => ∃ f, h' = jx_st h 8 i f ∧ AR f 4 16 (sy s)) := by
  refine jx_MW_by [some (jR 6 i), none, none, none] (by decide) rfl (Nat.le_of_ble_eq_true rfl) (fun V rule => ?_)
  have outer := jl_up (P := fun j => ∀ (o1 o2 : Option jxV) (f : Nat → Int32), (∀ k, k < j → f k = nI (sy s k)) → V 2 [some (jR 6 i), some (jI (nI j)), o1, o2] [] (jx_st h 8 i f)) 4
    (by
      intro o1 o2 f hf
      refine rule (fun _ => false) 10 2 _ _ _ ?_
      refine pk_le 4 4 (fun _ => ?_) (fun q => absurd q (Nat.lt_irrefl _))
      exact Exists.intro f (And.intro rfl (fun k hk => ⟨hf k hk, sy_lt s k⟩)))
    (fun j hj ih => by
      intro o1 o2 f hf
      have inner := jl_up (P := fun n => V 11 [some (jR 6 i), some (jI (nI j)), some (jI (nI (xs (fun i => gf_ml (s i) (gf_pw (i * (j + 1)))) n))), some (jI (nI n))] [] (jx_st h 8 i f)) 15
        (by
          refine rule (Nat.beq 2) 20 11 _ _ _ ?_
          refine pk_le 15 15 (fun _ => ?_) (fun q => absurd q (Nat.lt_irrefl _))
          refine Exists.intro j (And.intro (And.intro hj rfl) ?_)
          refine jv_to (V := V) (ih (some (jI (nI (sy s j)))) (some (jI (nI 15))) (upd f j (nI (sy s j))) (fun k hk => ?_)) (by rw [nI_add]; rfl) rfl (by rw [jx_st_same, jx_st_st]; rfl)
          by_cases hkj : k = j
          · subst hkj; exact upd_same _ _ _
          · rw [upd_ne _ _ hkj]; exact hf k (by omega))
        (fun n hn ih2 => by
          refine rule (Nat.beq 11) 30 11 _ _ _ ?_
          refine pk_le 15 n (fun q => absurd q (by omega)) (fun _ => ?_)
          refine Exists.intro n (And.intro (And.intro hn rfl) ?_)
          have hnj : n * (j + 1) < 100 := Nat.lt_of_le_of_lt (Nat.mul_le_mul (show n ≤ 14 by omega) (show j + 1 ≤ 4 by omega)) (by decide)
          refine jx_cal (S_power (e := n * (j + 1)) (by omega)) (by rw [nI_add, pk_mul]) (fun q h2 hq => ?_)
          obtain ⟨rfl, rfl⟩ := hq
          refine jx_cal (S_product (hs.lt hn) (gf_pw_lt _)) (by rw [show jx_st h 8 i f 7 i n = h 7 i n from rfl, hs.at hn]) (fun q h2 hq => ?_)
          obtain ⟨rfl, rfl⟩ := hq
          exact jv_to (V := V) ih2 (by rw [jn_xor, nI_add]; rfl) rfl rfl)
      refine rule (Nat.beq 11) 20 2 _ _ _ ?_
      refine pk_le 4 j (fun q => absurd q (by omega)) (fun _ => ?_)
      exact inner 0 (Nat.zero_le _))
  refine rule (Nat.beq 2) 10 0 _ _ _ ?_
  exact jv_to (V := V) (outer 0 (Nat.zero_le _) none none (h 8 i) (fun k hk => absurd hk (Nat.not_lt_zero _))) rfl rfl (jx_st_id h 8 i).symm
/-- whether u (at i) and v (at k) in the first sum bring the later sums -/
def as1 (S : Nat → Nat) (i u k v j : Nat) : Bool := decide (gf_ml u (gf_pw (i * j)) ^^^ gf_ml v (gf_pw (k * j)) = S j)
def aso (S : Nat → Nat) (i u k v : Nat) : Bool := as1 S i u k v 1 && (as1 S i u k v 2 && as1 S i u k v 3)
theorem S_Row_areSumsOf {w i u k v : Nat} {S : Nat → Nat} {h : jxH} (hS : AR (h 8 w) 4 16 S) (hi : i < 15) (hu : u < 16) (hk : k < 15) (hv : v < 16) : jx_MW 52 [jR 6 w, jI (nI i), jI (nI u), jI (nI k), jI (nI v)] h (fun r h' => r = nI (aso S i u k v).toNat ∧ h' = h) := by
  refine jx_MW_by [some (jR 6 w), some (jI (nI i)), some (jI (nI u)), some (jI (nI k)), some (jI (nI v)), none, none, none] (by decide) rfl (Nat.le_of_ble_eq_true rfl) (fun V rule => ?_)
  have loop := jl_up (P := fun j => 1 ≤ j → ∀ (o1 o2 : Option jxV), (∀ n, 1 ≤ n → n < j → as1 S i u k v n = true) → V 3 [some (jR 6 w), some (jI (nI i)), some (jI (nI u)), some (jI (nI k)), some (jI (nI v)), some (jI (nI j)), o1, o2] [] h) 4
    (by
      intro _ o1 o2 hn
      refine rule (fun _ => false) 10 3 _ _ _ ?_
      refine pk_le 4 4 (fun _ => ?_) (fun q => absurd q (Nat.lt_irrefl _))
      refine And.intro (Or.inr rfl) (And.intro ?_ rfl)
      rw [aso, hn 1 (by decide) (by decide), hn 2 (by decide) (by decide), hn 3 (by decide) (by decide)]
      rfl)
    (fun j hj ih => by
      intro h1j o1 o2 hn
      refine rule (Nat.beq 3) 50 3 _ _ _ ?_
      refine pk_le 4 j (fun q => absurd q (by omega)) (fun _ => ?_)
      have hij : i * j < 100 := Nat.lt_of_le_of_lt (Nat.mul_le_mul (show i ≤ 14 by omega) (show j ≤ 3 by omega)) (by decide)
      have hkj : k * j < 100 := Nat.lt_of_le_of_lt (Nat.mul_le_mul (show k ≤ 14 by omega) (show j ≤ 3 by omega)) (by decide)
      refine jx_cal (S_power (e := i * j) (by omega)) (by rw [pk_mul]) (fun q h2 hq => ?_)
      obtain ⟨rfl, rfl⟩ := hq
      refine jx_cal (S_product hu (gf_pw_lt _)) rfl (fun q h2 hq => ?_)
      obtain ⟨rfl, rfl⟩ := hq
      refine jx_cal (S_power (e := k * j) (by omega)) (by rw [pk_mul]) (fun q h2 hq => ?_)
      obtain ⟨rfl, rfl⟩ := hq
      refine jx_cal (S_product hv (gf_pw_lt _)) rfl (fun q h2 hq => ?_)
      obtain ⟨rfl, rfl⟩ := hq
      refine Exists.intro j (And.intro (And.intro hj rfl) ?_)
      have x16 : gf_ml u (gf_pw (i * j)) ^^^ gf_ml v (gf_pw (k * j)) < 16 := gf_xor_lt (gf_ml_lt _ _) (gf_ml_lt _ _)
      have s16 := hS.lt hj
      refine pk_eq (gf_ml u (gf_pw (i * j)) ^^^ gf_ml v (gf_pw (k * j))) (S j) (fun q => ?_) (fun q => ?_) (by rw [jn_xor]) (hS.at hj)
      · refine jv_to (V := V) (ih (by omega) _ _ (fun n h1 h2 => ?_)) (by rw [nI_add]) rfl rfl
        by_cases hnj : n = j
        · subst hnj; simp [as1, q]
        · exact hn n h1 (by omega)
      · refine And.intro (Or.inl rfl) (And.intro ?_ rfl)
        have e : as1 S i u k v j = false := by simp [as1, q]
        have e2 : aso S i u k v = false := by
          rcases (show j = 1 ∨ j = 2 ∨ j = 3 by omega) with rfl | rfl | rfl <;> simp [aso, e]
        rw [e2]
        rfl)
  refine rule (Nat.beq 3) 10 0 _ _ _ ?_
  exact loop 1 (by decide) (Nat.le_refl _) none none (fun n h1 h2 => by omega)
theorem S_Row_mend {w i u : Nat} {s : Nat → Nat} {h : jxH} (hs : AR (h 7 w) 15 16 s) (hi : i < 15) (hu : u < 16) : jx_MW 56 [jR 6 w, jI (nI i), jI (nI u)] h (fun _ h' => ∃ f, h' = jx_st h 7 w f ∧ AR f 15 16 (nup s i (s i ^^^ gf_qt u (gf_pw i)))) := by
  refine jx_MW_by [some (jR 6 w), some (jI (nI i)), some (jI (nI u))] (by decide) rfl (Nat.le_of_ble_eq_true rfl) (fun V rule => ?_)
  refine rule (fun _ => false) 20 0 _ _ _ ?_
  refine Exists.intro i (And.intro (And.intro hi rfl) ?_)
  refine jx_cal (S_power (e := i) (by omega)) rfl (fun q h2 hq => ?_)
  obtain ⟨rfl, rfl⟩ := hq
  refine jx_cal (S_quotient hu (gf_pw_lt i)) rfl (fun q h2 hq => ?_)
  obtain ⟨rfl, rfl⟩ := hq
  refine Exists.intro i (And.intro (And.intro hi rfl) ?_)
  refine Exists.intro _ (And.intro ?_ (hs.put (gf_xor_lt (hs.lt hi) (gf_qt_lt _ _))))
  rw [hs.at hi, jn_xor]
/-- the first place from i on, of n, where P holds -/
def fst (P : Nat → Bool) : Nat → Nat → Option Nat
  | _, 0 => none
  | i, n + 1 => if P i = true then some i else fst P (i + 1) n
theorem fst_none {P : Nat → Bool} : ∀ {n i : Nat}, (∀ k, i ≤ k → k < i + n → P k = false) → fst P i n = none
  | 0, _, _ => rfl
  | n + 1, i, h => by
    unfold fst
    rw [if_neg (by rw [h i (Nat.le_refl _) (by omega)]; decide)]
    exact fst_none (fun k h1 h2 => h k (by omega) (by omega))
theorem fst_some {P : Nat → Bool} : ∀ {n i j : Nat}, i ≤ j → j < i + n → (∀ k, i ≤ k → k < j → P k = false) → P j = true → fst P i n = some j
  | 0, _, _, h1, h2, _, _ => by omega
  | n + 1, i, j, h1, h2, h3, h4 => by
    unfold fst
    by_cases hij : i = j
    · subst hij
      rw [if_pos h4]
    · rw [if_neg (by rw [h3 i (Nat.le_refl _) (by omega)]; decide)]
      exact fst_some (by omega) (by omega) (fun k k1 k2 => h3 k (by omega) k2) h4
theorem fst_lt {P : Nat → Bool} : ∀ {n i j : Nat}, fst P i n = some j → i ≤ j ∧ j < i + n ∧ P j = true
  | 0, _, _, h => by cases h
  | n + 1, i, j, h => by
    unfold fst at h
    by_cases hp : P i = true
    · rw [if_pos hp] at h
      cases h
      exact ⟨Nat.le_refl _, by omega, hp⟩
    · rw [if_neg hp] at h
      obtain ⟨h1, h2, h3⟩ := fst_lt h
      exact ⟨by omega, by omega, h3⟩
def c1 (S : Nat → Nat) : Option Nat := fst (fun i => aso S i (S 0) i 0) 0 15
theorem S_Row_correctOne {w : Nat} {s S : Nat → Nat} {h : jxH} (hs : AR (h 7 w) 15 16 s) (hS : AR (h 8 w) 4 16 S) : jx_MW 83 [jR 6 w] h (fun r h' => match c1 S with
    | some i => r = nI 1 ∧ ∃ f, h' = jx_st h 7 w f ∧ AR f 15 16 (nup s i (s i ^^^ gf_qt (S 0) (gf_pw i)))
    | none => r = nI 0 ∧ h' = h) := by
  refine jx_MW_by [some (jR 6 w), none] (by decide) rfl (Nat.le_of_ble_eq_true rfl) (fun V rule => ?_)
  have loop := jl_up (P := fun i => (∀ k, k < i → aso S k (S 0) k 0 = false) → V 2 [some (jR 6 w), some (jI (nI i))] [] h) 15
    (by
      intro hn
      refine rule (fun _ => false) 10 2 _ _ _ ?_
      refine pk_le 15 15 (fun _ => ?_) (fun q => absurd q (Nat.lt_irrefl _))
      refine And.intro (Or.inl rfl) ?_
      have e : c1 S = none := fst_none (fun k _ h2 => hn k (by omega))
      rw [e]
      exact And.intro rfl rfl)
    (fun i hi ih => by
      intro hn
      refine rule (Nat.beq 2) 30 2 _ _ _ ?_
      refine pk_le 15 i (fun q => absurd q (by omega)) (fun _ => ?_)
      refine Exists.intro 0 (And.intro (And.intro (by decide) rfl) ?_)
      refine jx_cal (S_Row_areSumsOf (i := i) (u := S 0) (k := i) (v := 0) hS hi (hS.lt (by decide)) hi (by decide)) (by rw [hS.at (show 0 < 4 by decide)]) (fun q h2 hq => ?_)
      obtain ⟨rfl, rfl⟩ := hq
      refine pk_eq (aso S i (S 0) i 0).toNat 0 (fun q => ?_) (fun q => ?_) rfl rfl (by have := toNat_le (aso S i (S 0) i 0); omega) (by decide)
      · have e0 : aso S i (S 0) i 0 = false := by cases hd : aso S i (S 0) i 0 with
          | false => rfl
          | true => rw [hd] at q; cases q
        refine jv_to (V := V) (ih (fun k hk => ?_)) (by rw [nI_add]) rfl rfl
        by_cases hki : k = i
        · subst hki; exact e0
        · exact hn k (by omega)
      · have e0 : aso S i (S 0) i 0 = true := by cases hd : aso S i (S 0) i 0 with
          | true => rfl
          | false => rw [hd] at q; exact absurd rfl q
        refine Exists.intro 0 (And.intro (And.intro (by decide) rfl) ?_)
        refine jx_cal (S_Row_mend (i := i) (u := S 0) hs hi (hS.lt (by decide))) (by rw [hS.at (show 0 < 4 by decide)]) (fun q h2 hq => ?_)
        refine And.intro (Or.inr rfl) ?_
        have e : c1 S = some i := fst_some (Nat.zero_le _) (by omega) (fun k _ hk => hn k hk) e0
        rw [e]
        exact And.intro rfl hq)
  refine rule (Nat.beq 2) 10 0 _ _ _ ?_
  exact loop 0 (Nat.zero_le _) (fun k hk => absurd hk (Nat.not_lt_zero _))
/-- the second fault's part of the first sum, faults at i and k -/
def vv (S : Nat → Nat) (i k : Nat) : Nat := gf_s2 (S 0) (S 1) (gf_pw i) (gf_pw k)
def q2 (S : Nat → Nat) (i k : Nat) : Bool := aso S i (S 0 ^^^ vv S i k) k (vv S i k)
/-- the first pair from i on, of n -/
def fs2 (S : Nat → Nat) : Nat → Nat → Option (Nat × Nat)
  | _, 0 => none
  | i, n + 1 => match fst (q2 S i) (i + 1) (14 - i) with
    | some k => some (i, k)
    | none => fs2 S (i + 1) n
theorem fs2_none {S : Nat → Nat} : ∀ {n i : Nat}, (∀ a, i ≤ a → a < i + n → fst (q2 S a) (a + 1) (14 - a) = none) → fs2 S i n = none
  | 0, _, _ => rfl
  | n + 1, i, h => by
    unfold fs2
    rw [h i (Nat.le_refl _) (by omega)]
    exact fs2_none (fun k h1 h2 => h k (by omega) (by omega))
theorem fs2_some {S : Nat → Nat} : ∀ {n i j k : Nat}, i ≤ j → j < i + n → (∀ a, i ≤ a → a < j → fst (q2 S a) (a + 1) (14 - a) = none) → fst (q2 S j) (j + 1) (14 - j) = some k → fs2 S i n = some (j, k)
  | 0, _, _, _, h1, h2, _, _ => by omega
  | n + 1, i, j, k, h1, h2, h3, h4 => by
    unfold fs2
    by_cases hij : i = j
    · subst hij
      rw [h4]
    · rw [h3 i (Nat.le_refl _) (by omega)]
      exact fs2_some (by omega) (by omega) (fun a k1 k2 => h3 a (by omega) k2) h4
def c2 (S : Nat → Nat) : Option (Nat × Nat) := fs2 S 0 15
def m2 (S s : Nat → Nat) (i k : Nat) : Nat → Nat := nup (nup s i (s i ^^^ gf_qt (S 0 ^^^ vv S i k) (gf_pw i))) k (s k ^^^ gf_qt (vv S i k) (gf_pw k))
theorem S_Row_correctTwo {w : Nat} {s S : Nat → Nat} {h : jxH} (hs : AR (h 7 w) 15 16 s) (hS : AR (h 8 w) 4 16 S) : jx_MW 84 [jR 6 w] h (fun r h' => match c2 S with
    | some q => r = nI 1 ∧ ∃ f, h' = jx_st h 7 w f ∧ AR f 15 16 (m2 S s q.1 q.2)
    | none => r = nI 0 ∧ h' = h) := by
  refine jx_MW_by [some (jR 6 w), none, none, none, none] (by decide) rfl (Nat.le_of_ble_eq_true rfl) (fun V rule => ?_)
  have outer := jl_up (P := fun i => ∀ o1 o2 o3 : Option jxV, (∀ a, a < i → fst (q2 S a) (a + 1) (14 - a) = none) → V 2 [some (jR 6 w), some (jI (nI i)), o1, o2, o3] [] h) 15
    (by
      intro o1 o2 o3 hn
      refine rule (fun _ => false) 10 2 _ _ _ ?_
      refine pk_le 15 15 (fun _ => ?_) (fun q => absurd q (Nat.lt_irrefl _))
      refine And.intro (Or.inl rfl) ?_
      have e : c2 S = none := fs2_none (fun k _ h2 => hn k (by omega))
      rw [e]
      exact And.intro rfl rfl)
    (fun i hi ih => by
      intro o1 o2 o3 hn
      have inner := jl_up (P := fun k => i + 1 ≤ k → ∀ o2 o3 : Option jxV, (∀ a, i + 1 ≤ a → a < k → q2 S i a = false) → V 12 [some (jR 6 w), some (jI (nI i)), some (jI (nI k)), o2, o3] [] h) 15
        (by
          intro _ o2 o3 hm
          refine rule (Nat.beq 2) 20 12 _ _ _ ?_
          refine pk_le 15 15 (fun _ => ?_) (fun q => absurd q (Nat.lt_irrefl _))
          refine jv_to (V := V) (ih (some (jI (nI 15))) o2 o3 (fun a ha => ?_)) (by rw [nI_add]) rfl rfl
          by_cases hai : a = i
          · subst hai
            exact fst_none (fun b h1 h2 => hm b h1 (by omega))
          · exact hn a (by omega))
        (fun k hk ih2 => by
          intro hik o2 o3 hm
          refine rule (Nat.beq 12) 60 12 _ _ _ ?_
          refine pk_le 15 k (fun q => absurd q (by omega)) (fun _ => ?_)
          refine Exists.intro 0 (And.intro (And.intro (by decide) rfl) ?_)
          refine Exists.intro 1 (And.intro (And.intro (by decide) rfl) ?_)
          refine jx_cal (S_power (e := i) (by omega)) rfl (fun q h2 hq => ?_)
          obtain ⟨rfl, rfl⟩ := hq
          refine jx_cal (S_power (e := k) (by omega)) rfl (fun q h2 hq => ?_)
          obtain ⟨rfl, rfl⟩ := hq
          have s0 := hS.lt (show 0 < 4 by decide)
          have s1 := hS.lt (show 1 < 4 by decide)
          have a0 := hS.at (show 0 < 4 by decide)
          have a1 := hS.at (show 1 < 4 by decide)
          refine jx_cal (S_secondOfTwo s0 s1 (gf_pw_lt i) (gf_pw_lt k)) (by rw [a0, a1]) (fun q h2 hq => ?_)
          obtain ⟨rfl, rfl⟩ := hq
          have v16 : vv S i k < 16 := gf_qt_lt _ _
          refine Exists.intro 0 (And.intro (And.intro (by decide) rfl) ?_)
          refine jx_cal (S_Row_areSumsOf (i := i) (u := S 0 ^^^ vv S i k) (k := k) (v := vv S i k) hS hi (gf_xor_lt s0 v16) hk v16) (by rw [a0]; show [_, _, jI (nI (S 0) ^^^ nI (vv S i k)), _, _] = _; rw [jn_xor]; rfl) (fun q h2 hq => ?_)
          obtain ⟨rfl, rfl⟩ := hq
          refine pk_eq (q2 S i k).toNat 0 (fun q => ?_) (fun q => ?_) rfl rfl (by have := toNat_le (q2 S i k); omega) (by decide)
          · have e0 : q2 S i k = false := by cases hd : q2 S i k with
              | false => rfl
              | true => rw [hd] at q; cases q
            refine jv_to (V := V) (ih2 (by omega) _ _ (fun a h1 h2 => ?_)) (by rw [nI_add]) rfl rfl
            by_cases hak : a = k
            · subst hak; exact e0
            · exact hm a h1 (by omega)
          · have e0 : q2 S i k = true := by cases hd : q2 S i k with
              | true => rfl
              | false => rw [hd] at q; exact absurd rfl q
            refine jx_cal (S_Row_mend (i := i) (u := S 0 ^^^ vv S i k) hs hi (gf_xor_lt s0 v16)) (by rw [a0]; show [_, _, jI (nI (S 0) ^^^ nI (vv S i k))] = _; rw [jn_xor]) (fun q h2 hq => ?_)
            obtain ⟨f1, rfl, g1⟩ := hq
            refine jx_cal (S_Row_mend (i := k) (u := vv S i k) (g1.st _ _ _) hk v16) rfl (fun q h2 hq => ?_)
            obtain ⟨f2, rfl, g2⟩ := hq
            refine And.intro (Or.inr rfl) ?_
            have ef : fst (q2 S i) (i + 1) (14 - i) = some k := fst_some hik (by omega) (fun a h1 h2 => hm a h1 h2) e0
            have e : c2 S = some (i, k) := fs2_some (Nat.zero_le _) (by omega) (fun a _ ha => hn a ha) ef
            rw [e]
            refine And.intro rfl (Exists.intro f2 (And.intro (by rw [jx_st_st]) ?_))
            rw [nup_ne _ _ (show k ≠ i by omega)] at g2
            exact g2)
      refine rule (Nat.beq 12) 20 2 _ _ _ ?_
      refine pk_le 15 i (fun q => absurd q (by omega)) (fun _ => ?_)
      exact jv_to (V := V) (inner (i + 1) (by omega) (Nat.le_refl _) o2 o3 (fun a h1 h2 => by omega)) (by rw [nI_add]) rfl rfl)
  refine rule (Nat.beq 2) 10 0 _ _ _ ?_
  exact outer 0 (Nat.zero_le _) none none none (fun k hk => absurd hk (Nat.not_lt_zero _))
/-- what correct answers, and the row behind it -/
def corS (s : Nat → Nat) : Nat → Nat := sy s
def cor (s : Nat → Nat) : Int32 × (Nat → Nat) :=
  if sy s 0 ||| sy s 1 ||| sy s 2 ||| sy s 3 = 0 then (nI 0, s) else match c1 (sy s) with
    | some i => (nI 1, nup s i (s i ^^^ gf_qt (sy s 0) (gf_pw i)))
    | none => match c2 (sy s) with
      | some q => (nI 2, m2 (sy s) s q.1 q.2)
      | none => (-nI 1, s)
theorem S_Row_correct {w : Nat} {s : Nat → Nat} {h : jxH} (hs : AR (h 7 w) 15 16 s) : jx_MW 95 [jR 6 w] h (fun r h' => r = (cor s).1 ∧ ∃ f g, h' = jx_st (jx_st h 8 w g) 7 w f ∧ AR f 15 16 (cor s).2) := by
  refine jx_MW_by [some (jR 6 w)] (by decide) rfl (Nat.le_of_ble_eq_true rfl) (fun V rule => ?_)
  refine rule (fun _ => false) 40 0 _ _ _ ?_
  refine jx_cal (S_Row_findSums hs) rfl (fun q h2 hq => ?_)
  obtain ⟨g, rfl, hg⟩ := hq
  have hS := hg.st h 8 w
  have hs' : AR (jx_st h 8 w g 7 w) 15 16 s := hs
  have idn : jx_st h 8 w g = jx_st (jx_st h 8 w g) 7 w (h 7 w) := (jx_st_id (jx_st h 8 w g) 7 w).symm
  refine jx_cal (S_Row_isWord hS) rfl (fun q h2 hq => ?_)
  obtain ⟨rfl, rfl⟩ := hq
  by_cases c0 : sy s 0 ||| sy s 1 ||| sy s 2 ||| sy s 3 = 0
  · refine pk_eq 1 0 (fun q => absurd q (by decide)) (fun _ => ?_) (by simp [c0]) rfl
    have e : cor s = (nI 0, s) := by rw [cor, if_pos c0]
    rw [e]
    exact And.intro rfl (Exists.intro _ (Exists.intro g (And.intro idn hs)))
  · refine pk_eq 0 0 (fun _ => ?_) (fun q => absurd rfl q) (by simp [c0]) rfl
    refine jx_cal (S_Row_correctOne hs' hS) rfl (fun r h2 hq => ?_)
    cases e1 : c1 (sy s) with
    | some i =>
      rw [e1] at hq
      obtain ⟨rfl, f, rfl, hf⟩ := hq
      refine pk_eq 1 0 (fun q => absurd q (by decide)) (fun _ => ?_)
      have e : cor s = (nI 1, nup s i (s i ^^^ gf_qt (sy s 0) (gf_pw i))) := by rw [cor, if_neg c0, e1]
      rw [e]
      exact And.intro rfl (Exists.intro f (Exists.intro g (And.intro rfl hf)))
    | none =>
      rw [e1] at hq
      obtain ⟨rfl, rfl⟩ := hq
      refine pk_eq 0 0 (fun _ => ?_) (fun q => absurd rfl q)
      refine jx_cal (S_Row_correctTwo hs' hS) rfl (fun r h2 hq => ?_)
      cases e2 : c2 (sy s) with
      | some q =>
        rw [e2] at hq
        obtain ⟨rfl, f, rfl, hf⟩ := hq
        refine pk_eq 1 0 (fun q => absurd q (by decide)) (fun _ => ?_)
        have e : cor s = (nI 2, m2 (sy s) s q.1 q.2) := by rw [cor, if_neg c0, e1, e2]
        rw [e]
        exact And.intro rfl (Exists.intro f (Exists.intro g (And.intro rfl hf)))
      | none =>
        rw [e2] at hq
        obtain ⟨rfl, rfl⟩ := hq
        refine pk_eq 0 0 (fun _ => ?_) (fun q => absurd rfl q)
        have e : cor s = (-nI 1, s) := by rw [cor, if_neg c0, e1, e2]
        rw [e]
        exact And.intro rfl (Exists.intro _ (Exists.intro g (And.intro idn hs)))
