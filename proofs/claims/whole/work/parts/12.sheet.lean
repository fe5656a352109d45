/-! Sheet: dots as functions of x and y. -/
def LN (f : Nat → Int32) (D : Nat → Nat → Bool) : Prop := ∀ y, y < 18 → ∃ n, n < 2 ^ 18 ∧ f y = nI n ∧ ∀ x, x < 18 → n.testBit x = D x y
theorem LN.congr {f : Nat → Int32} {D D' : Nat → Nat → Bool} (h : LN f D) (he : ∀ x y, x < 18 → y < 18 → D x y = D' x y) : LN f D' := by
  intro y hy
  obtain ⟨n, h1, h2, h3⟩ := h y hy
  exact ⟨n, h1, h2, fun x hx => (h3 x hx).trans (he x y hx hy)⟩
theorem LN.st {f : Nat → Int32} {D : Nat → Nat → Bool} (h : jxH) (p : Nat) (hf : LN f D) : LN (jx_st h 4 p f 4 p) D := by
  rw [jx_st_same]
  exact hf
theorem if_iff {p q : Prop} [Decidable p] [Decidable q] {α : Type} {a b : α} (h : p ↔ q) : (if p then a else b) = if q then a else b := by
  by_cases hp : p
  · rw [if_pos hp, if_pos (h.mp hp)]
  · rw [if_neg hp, if_neg (fun z => hp (h.mpr z))]
def fr (x y : Nat) : Bool := decide (x = 0) || decide (y = 0) || (decide (x = 17) && decide (y % 2 = 0)) || (decide (y = 17) && decide (x % 2 = 0))
theorem S_Sheet_blockX {b : Nat} {h : jxH} (hb : b < 1000) : jx_MW 4 [jI (nI b)] h (fun r h' => r = nI (1 + 2 * (b % 8)) ∧ h' = h) := by
  refine jx_MW_by [some (jI (nI b))] (by decide) rfl (Nat.le_of_ble_eq_true rfl) (fun V rule => ?_)
  refine rule (fun _ => false) 10 0 _ _ _ ?_
  refine And.intro (by decide) ?_
  refine And.intro ?_ rfl
  rw [jn_rem (by omega) (by decide) (by decide), pk_mul, nI_add]
theorem S_Sheet_blockY {b : Nat} {h : jxH} (hb : b < 1000) : jx_MW 5 [jI (nI b)] h (fun r h' => r = nI (1 + 2 * (b / 8)) ∧ h' = h) := by
  refine jx_MW_by [some (jI (nI b))] (by decide) rfl (Nat.le_of_ble_eq_true rfl) (fun V rule => ?_)
  refine rule (fun _ => false) 10 0 _ _ _ ?_
  refine And.intro (by decide) ?_
  refine And.intro ?_ rfl
  rw [pk_div (by omega) (by decide) (by decide), pk_mul, nI_add]
theorem tb_div (n x : Nat) : n.testBit x = decide (n / 2 ^ x % 2 = 1) := Nat.testBit_eq_decide_div_mod_eq
theorem S_Sheet_isBlack {p x y : Nat} {D : Nat → Nat → Bool} {h : jxH} (hL : LN (h 4 p) D) (hx : x < 18) (hy : y < 18) : jx_MW 7 [jR 3 p, jI (nI x), jI (nI y)] h (fun r h' => r = nI (D x y).toNat ∧ h' = h) := by
  refine jx_MW_by [some (jR 3 p), some (jI (nI x)), some (jI (nI y))] (by decide) rfl (Nat.le_of_ble_eq_true rfl) (fun V rule => ?_)
  refine rule (fun _ => false) 20 0 _ _ _ ?_
  obtain ⟨n, hn, e, hb⟩ := hL y hy
  refine Exists.intro y (And.intro (And.intro hy rfl) ?_)
  have hb := hb x hx
  rw [tb_div] at hb
  refine pk_eq (n / 2 ^ x % 2) 1 (fun q => ?_) (fun q => ?_) (by rw [e, jn_shr (by omega) (by omega), jn_and, Nat.and_one_is_mod]) rfl
  · refine And.intro (Or.inr rfl) (And.intro ?_ rfl)
    rw [← hb]
    simp [q]
  · refine And.intro (Or.inl rfl) (And.intro ?_ rfl)
    rw [← hb]
    simp [q]
theorem S_Sheet_invert {p x y : Nat} {D : Nat → Nat → Bool} {h : jxH} (hL : LN (h 4 p) D) (hx : x < 18) (hy : y < 18) : jx_MW 6 [jR 3 p, jI (nI x), jI (nI y)] h (fun _ h' => ∃ f, h' = jx_st h 4 p f ∧ LN f (fun a b => if a = x ∧ b = y then !D a b else D a b)) := by
  refine jx_MW_by [some (jR 3 p), some (jI (nI x)), some (jI (nI y))] (by decide) rfl (Nat.le_of_ble_eq_true rfl) (fun V rule => ?_)
  refine rule (fun _ => false) 20 0 _ _ _ ?_
  obtain ⟨n, hn, e, hb⟩ := hL y hy
  refine Exists.intro y (And.intro (And.intro hy rfl) ?_)
  refine Exists.intro y (And.intro (And.intro hy rfl) ?_)
  have hpw : 2 ^ x < 2 ^ 18 := Nat.pow_lt_pow_right (by decide) hx
  refine Exists.intro (upd (h 4 p) y (nI (n ^^^ 2 ^ x))) (And.intro ?_ ?_)
  · rw [e, jn_shl (by omega) (by rw [Nat.one_mul]; omega), jn_xor, Nat.one_mul]
  · intro b hb9
    by_cases hby : b = y
    · subst hby
      refine ⟨n ^^^ 2 ^ x, Nat.xor_lt_two_pow hn hpw, upd_same _ _ _, fun a ha => ?_⟩
      rw [Nat.testBit_xor, hb a ha, Nat.testBit_two_pow]
      by_cases hax : a = x
      · subst hax
        simp
      · simp [hax, Ne.symm hax]
    · obtain ⟨n', h1, h2, h3⟩ := hL b hb9
      refine ⟨n', h1, by rw [upd_ne _ _ hby]; exact h2, fun a ha => ?_⟩
      rw [h3 a ha]
      simp [hby]
theorem S_Sheet_whiten {p : Nat} {h : jxH} : jx_MW 9 [jR 3 p] h (fun _ h' => ∃ f, h' = jx_st h 4 p f ∧ LN f (fun _ _ => false)) := by
  refine jx_MW_by [some (jR 3 p), none] (by decide) rfl (Nat.le_of_ble_eq_true rfl) (fun V rule => ?_)
  have loop := jl_up (P := fun i => ∀ f : Nat → Int32, (∀ y, y < i → f y = nI 0) → V 2 [some (jR 3 p), some (jI (nI i))] [] (jx_st h 4 p f)) 18
    (by
      intro f hf
      refine rule (fun _ => false) 10 2 _ _ _ ?_
      refine pk_le 18 18 (fun _ => ?_) (fun q => absurd q (Nat.lt_irrefl _))
      exact Exists.intro f (And.intro rfl (fun y hy => ⟨0, by decide, hf y hy, fun x _ => Nat.zero_testBit x⟩)))
    (fun i hi ih => by
      intro f hf
      refine rule (Nat.beq 2) 20 2 _ _ _ ?_
      refine pk_le 18 i (fun q => absurd q (by omega)) (fun _ => ?_)
      refine Exists.intro i (And.intro (And.intro hi rfl) ?_)
      refine jv_to (V := V) (ih (upd f i (nI 0)) (fun y hy => ?_)) (by rw [nI_add]) rfl (by rw [jx_st_same, jx_st_st])
      by_cases hyi : y = i
      · subst hyi; exact upd_same _ _ _
      · rw [upd_ne _ _ hyi]; exact hf y (by omega))
  refine rule (Nat.beq 2) 10 0 _ _ _ ?_
  exact jv_to (V := V) (loop 0 (Nat.zero_le _) (h 4 p) (fun y hy => absurd hy (Nat.not_lt_zero _))) rfl rfl (jx_st_id h 4 p).symm
theorem S_Sheet_isFrameBlack {x y : Nat} {h : jxH} (hx : x < 18) (hy : y < 18) : jx_MW 8 [jI (nI x), jI (nI y)] h (fun r h' => r = nI (fr x y).toNat ∧ h' = h) := by
  refine jx_MW_by [some (jI (nI x)), some (jI (nI y))] (by decide) rfl (Nat.le_of_ble_eq_true rfl) (fun V rule => ?_)
  refine rule (fun _ => false) 40 0 _ _ _ ?_
  refine pk_eq x 0 (fun q1 => ?_) (fun q1 => ?_)
  · refine And.intro (Or.inr rfl) (And.intro ?_ rfl)
    simp [fr, q1]
  refine pk_eq y 0 (fun q2 => ?_) (fun q2 => ?_)
  · refine And.intro (Or.inr rfl) (And.intro ?_ rfl)
    simp [fr, q2]
  refine pk_eq x 17 (fun q3 => ?_) (fun q3 => ?_)
  · refine And.intro (by decide) ?_
    refine pk_eq (y % 2) 0 (fun q4 => ?_) (fun q4 => ?_) (jn_rem (by omega) (by decide) (by decide)) rfl
    · refine And.intro (Or.inr rfl) (And.intro ?_ rfl)
      simp [fr, q3, q4]
    refine pk_eq y 17 (fun q5 => ?_) (fun q5 => ?_)
    · refine And.intro (by decide) ?_
      refine pk_eq (x % 2) 0 (fun q6 => ?_) (fun q6 => ?_) (jn_rem (by omega) (by decide) (by decide)) rfl
      · refine And.intro (Or.inr rfl) (And.intro ?_ rfl)
        simp [fr, q5, q6]
      · refine And.intro (Or.inl rfl) (And.intro ?_ rfl)
        simp [fr, q1, q2, q3, q4, q5, q6]
    · refine And.intro (Or.inl rfl) (And.intro ?_ rfl)
      simp [fr, q1, q2, q3, q4, q5]
  · refine pk_eq y 17 (fun q5 => ?_) (fun q5 => ?_)
    · refine And.intro (by decide) ?_
      refine pk_eq (x % 2) 0 (fun q6 => ?_) (fun q6 => ?_) (jn_rem (by omega) (by decide) (by decide)) rfl
      · refine And.intro (Or.inr rfl) (And.intro ?_ rfl)
        simp [fr, q5, q6]
      · refine And.intro (Or.inl rfl) (And.intro ?_ rfl)
        simp [fr, q1, q2, q3, q5, q6]
    · refine And.intro (Or.inl rfl) (And.intro ?_ rfl)
      simp [fr, q1, q2, q3, q5]
-- counting, and painting
def sm (f : Nat → Nat) (a : Nat) : Nat → Nat
  | 0 => 0
  | n + 1 => sm f a n + f (a + n)
theorem sm_le {f : Nat → Nat} (hf : ∀ k, f k ≤ 18) (a : Nat) : ∀ n, sm f a n ≤ 18 * n
  | 0 => Nat.le_refl _
  | n + 1 => by
    have h1 := sm_le hf a n
    have h2 := hf (a + n)
    show sm f a n + f (a + n) ≤ _
    omega
theorem sm_le1 {f : Nat → Nat} (hf : ∀ k, f k ≤ 1) (a : Nat) : ∀ n, sm f a n ≤ n
  | 0 => Nat.le_refl _
  | n + 1 => by
    have h1 := sm_le1 hf a n
    have h2 := hf (a + n)
    show sm f a n + f (a + n) ≤ _
    omega
theorem sm_congr {f g : Nat → Nat} {a : Nat} : ∀ {n : Nat}, (∀ k, a ≤ k → k < a + n → f k = g k) → sm f a n = sm g a n
  | 0, _ => rfl
  | n + 1, h => by
    show sm f a n + f (a + n) = sm g a n + g (a + n)
    rw [sm_congr (fun k h1 h2 => h k h1 (by omega)), h (a + n) (by omega) (by omega)]
/-- one where the dot is otherwise -/
def df (D : Nat → Nat → Bool) (c : Bool) (y x : Nat) : Nat := if D x y = c then 0 else 1
def pD (D : Nat → Nat → Bool) (l t r b : Nat) (c : Bool) : Nat → Nat → Bool := fun x y => if l ≤ x ∧ x < r ∧ t ≤ y ∧ y < b then c else D x y
theorem toNat_inj {a b : Bool} : a.toNat = b.toNat ↔ a = b := by cases a <;> cases b <;> decide
theorem toNat_le (a : Bool) : a.toNat ≤ 1 := by cases a <;> decide
theorem S_Sheet_paint {p l t r b : Nat} {c : Bool} {D : Nat → Nat → Bool} {h : jxH} (hL : LN (h 4 p) D) (hr : r ≤ 18) (hb : b ≤ 18) (hl : l ≤ r) (ht : t ≤ b) : jx_MW 51 [jR 3 p, jI (nI l), jI (nI t), jI (nI r), jI (nI b), jI (nI c.toNat)] h (fun q h' => q = nI (sm (fun y => sm (df D c y) l (r - l)) t (b - t)) ∧ ∃ f, h' = jx_st h 4 p f ∧ LN f (pD D l t r b c)) := by
  refine jx_MW_by [some (jR 3 p), some (jI (nI l)), some (jI (nI t)), some (jI (nI r)), some (jI (nI b)), some (jI (nI c.toNat)), none, none, none] (by decide) rfl (Nat.le_of_ble_eq_true rfl) (fun V rule => ?_)
  have d1 : ∀ y x, df D c y x ≤ 1 := fun y x => by unfold df; split <;> omega
  have d18 : ∀ y, sm (df D c y) l (r - l) ≤ 18 := fun y => Nat.le_trans (sm_le1 (d1 y) l (r - l)) (by omega)
  have hc1 := toNat_le c
  have outer := jl_up (P := fun j => t ≤ j → ∀ (o : Option jxV) (f : Nat → Int32), LN f (pD D l t r j c) → V 6 [some (jR 3 p), some (jI (nI l)), some (jI (nI t)), some (jI (nI r)), some (jI (nI b)), some (jI (nI c.toNat)), some (jI (nI (sm (fun y => sm (df D c y) l (r - l)) t (j - t)))), some (jI (nI j)), o] [] (jx_st h 4 p f)) b
    (by
      intro _ o f hf
      refine rule (fun _ => false) 10 6 _ _ _ ?_
      refine pk_le b b (fun _ => ?_) (fun q => absurd q (Nat.lt_irrefl _))
      exact And.intro rfl (Exists.intro f (And.intro rfl hf)))
    (fun j hj ih => by
      intro htj o f hf
      have inner := jl_up (P := fun i => l ≤ i → ∀ (f : Nat → Int32), LN f (fun x y => if y = j ∧ l ≤ x ∧ x < i then c else pD D l t r j c x y) → V 16 [some (jR 3 p), some (jI (nI l)), some (jI (nI t)), some (jI (nI r)), some (jI (nI b)), some (jI (nI c.toNat)), some (jI (nI (sm (fun y => sm (df D c y) l (r - l)) t (j - t) + sm (df D c j) l (i - l)))), some (jI (nI j)), some (jI (nI i))] [] (jx_st h 4 p f)) r
        (by
          intro _ f hf
          refine rule (Nat.beq 6) 20 16 _ _ _ ?_
          refine pk_le r r (fun _ => ?_) (fun q => absurd q (Nat.lt_irrefl _))
          refine jv_to (V := V) (ih (by omega) (some (jI (nI r))) f (hf.congr (fun x y hx hy => ?_))) ?_ rfl rfl
          · unfold pD
            by_cases hyj : y = j
            · subst hyj
              by_cases h1 : l ≤ x ∧ x < r
              · simp [h1, htj]
              · simp [h1]
                intro a1 a2
                exact absurd ⟨a1, a2⟩ h1
            · have e1 : (y < j + 1) = (y < j) := propext ⟨fun q => by omega, fun q => by omega⟩
              simp [hyj, e1]
          · rw [nI_add, show j + 1 - t = (j - t) + 1 by omega]
            show _ = [some (jR 3 p), some (jI (nI l)), some (jI (nI t)), some (jI (nI r)), some (jI (nI b)), some (jI (nI c.toNat)), some (jI (nI (sm (fun y => sm (df D c y) l (r - l)) t (j - t) + sm (df D c (t + (j - t))) l (r - l)))), some (jI (nI (j + 1))), some (jI (nI r))]
            rw [show t + (j - t) = j by omega])
        (fun i hi ih2 => by
          intro hli f hf
          refine rule (Nat.beq 16) 30 16 _ _ _ ?_
          refine pk_le r i (fun q => absurd q (by omega)) (fun _ => ?_)
          have hf' : LN (jx_st h 4 p f 4 p) (fun x y => if y = j ∧ l ≤ x ∧ x < i then c else pD D l t r j c x y) := by rw [jx_st_same]; exact hf
          refine jx_cal (S_Sheet_isBlack hf' (by omega) (by omega)) rfl (fun q h' hq => ?_)
          obtain ⟨rfl, rfl⟩ := hq
          have e0 : (if j = j ∧ l ≤ i ∧ i < i then c else pD D l t r j c i j) = D i j := by simp [pD]
          rw [e0]
          have ei : i + 1 - l = (i - l) + 1 := by omega
          have el : l + (i - l) = i := by omega
          refine pk_eq (D i j).toNat c.toNat (fun q => ?_) (fun q => ?_) rfl rfl (by have := toNat_le (D i j); omega) (by omega)
          · have q1 := toNat_inj.mp q
            refine jv_to (V := V) (ih2 (by omega) f (hf.congr (fun x y hx hy => ?_))) ?_ rfl rfl
            · by_cases hyj : y = j
              · subst hyj
                by_cases hxi : x = i
                · subst hxi
                  simp [pD, hli, q1]
                · have e1 : (x < i + 1) = (x < i) := propext ⟨fun q => by omega, fun q => by omega⟩
                  simp [e1]
              · simp [hyj]
            · rw [nI_add, ei]
              show _ = [some (jR 3 p), some (jI (nI l)), some (jI (nI t)), some (jI (nI r)), some (jI (nI b)), some (jI (nI c.toNat)), some (jI (nI (sm (fun y => sm (df D c y) l (r - l)) t (j - t) + (sm (df D c j) l (i - l) + df D c j (l + (i - l)))))), some (jI (nI j)), some (jI (nI (i + 1)))]
              rw [el, show df D c j i = 0 by simp [df, q1]]
              rfl
          · have q1 : ¬ D i j = c := fun z => q (toNat_inj.mpr z)
            refine jx_cal (S_Sheet_invert hf' (by omega) (by omega)) rfl (fun q2 h' hq => ?_)
            obtain ⟨f2, rfl, hf2⟩ := hq
            refine jv_to (V := V) (ih2 (by omega) f2 (hf2.congr (fun x y hx hy => ?_))) ?_ rfl (by rw [jx_st_st])
            · by_cases hyj : y = j
              · subst hyj
                by_cases hxi : x = i
                · subst hxi
                  have q3 : (!D x y) = c := by cases hd : D x y <;> cases c <;> simp_all
                  simp [pD, hli, q3]
                · have e1 : (x < i + 1) = (x < i) := propext ⟨fun q => by omega, fun q => by omega⟩
                  simp [e1, hxi]
              · simp [hyj]
            · rw [nI_add, nI_add, ei]
              show _ = [some (jR 3 p), some (jI (nI l)), some (jI (nI t)), some (jI (nI r)), some (jI (nI b)), some (jI (nI c.toNat)), some (jI (nI (sm (fun y => sm (df D c y) l (r - l)) t (j - t) + (sm (df D c j) l (i - l) + df D c j (l + (i - l)))))), some (jI (nI j)), some (jI (nI (i + 1)))]
              rw [el, show df D c j i = 1 by simp [df, q1], Nat.add_assoc])
      refine rule (Nat.beq 16) 20 6 _ _ _ ?_
      refine pk_le b j (fun q => absurd q (by omega)) (fun _ => ?_)
      refine jv_to (V := V) (inner l hl (Nat.le_refl _) f (hf.congr (fun x y hx hy => ?_))) ?_ rfl rfl
      · rw [if_neg (fun q => by omega)]
      · rw [Nat.sub_self]
        rfl)
  refine rule (Nat.beq 6) 10 0 _ _ _ ?_
  refine jv_to (V := V) (outer t ht (Nat.le_refl _) none (h 4 p) (hL.congr (fun x y hx hy => ?_))) ?_ rfl (jx_st_id h 4 p).symm
  · unfold pD
    rw [if_neg (fun q => by omega)]
  · rw [Nat.sub_self]
    rfl
theorem jn_17 {i : Nat} (h : i ≤ 17) : nI 17 - nI i = nI (17 - i) := pk_sub h
def edge (x y : Nat) : Bool := decide (x = 0) || decide (y = 0) || decide (x = 17) || decide (y = 17)
theorem S_Sheet_drawFrameDot {p x y : Nat} {D : Nat → Nat → Bool} {h : jxH} (hL : LN (h 4 p) D) (hx : x < 18) (hy : y < 18) : jx_MW 79 [jR 3 p, jI (nI x), jI (nI y)] h (fun _ h' => ∃ f, h' = jx_st h 4 p f ∧ LN f (fun a b => if a = x ∧ b = y then fr x y else D a b)) := by
  refine jx_MW_by [some (jR 3 p), some (jI (nI x)), some (jI (nI y))] (by decide) rfl (Nat.le_of_ble_eq_true rfl) (fun V rule => ?_)
  refine rule (fun _ => false) 30 0 _ _ _ ?_
  refine jx_cal (S_Sheet_isFrameBlack hx hy) rfl (fun q h' hq => ?_)
  obtain ⟨rfl, rfl⟩ := hq
  refine jx_cal (S_Sheet_paint (l := x) (t := y) (r := x + 1) (b := y + 1) hL (by omega) (by omega) (by omega) (by omega)) (by rw [nI_add, nI_add]) (fun q h2 hq => ?_)
  obtain ⟨-, f, rfl, hf⟩ := hq
  refine Exists.intro f (And.intro rfl (hf.congr (fun a b ha hb => ?_)))
  unfold pD
  exact if_iff ⟨fun q => by omega, fun q => by omega⟩
theorem S_Sheet_drawFrame {p : Nat} {D : Nat → Nat → Bool} {h : jxH} (hL : LN (h 4 p) D) : jx_MW 93 [jR 3 p] h (fun _ h' => ∃ f, h' = jx_st h 4 p f ∧ LN f (fun a b => if edge a b = true then fr a b else D a b)) := by
  refine jx_MW_by [some (jR 3 p), none] (by decide) rfl (Nat.le_of_ble_eq_true rfl) (fun V rule => ?_)
  have loop := jl_up (P := fun i => ∀ f : Nat → Int32, LN f (fun a b => if (b = 0 ∧ a < i) ∨ (a = 17 ∧ b < i) ∨ (b = 17 ∧ 17 - i < a) ∨ (a = 0 ∧ 17 - i < b) then fr a b else D a b) → V 2 [some (jR 3 p), some (jI (nI i))] [] (jx_st h 4 p f)) 17
    (by
      intro f hf
      refine rule (fun _ => false) 10 2 _ _ _ ?_
      refine pk_le 17 17 (fun _ => ?_) (fun q => absurd q (Nat.lt_irrefl _))
      refine Exists.intro f (And.intro rfl (hf.congr (fun a b ha hb => ?_)))
      refine if_iff ?_
      simp only [edge, Bool.or_eq_true, decide_eq_true_eq]
      omega)
    (fun i hi ih => by
      intro f hf
      refine rule (Nat.beq 2) 40 2 _ _ _ ?_
      refine pk_le 17 i (fun q => absurd q (by omega)) (fun _ => ?_)
      refine jx_cal (S_Sheet_drawFrameDot (x := i) (y := 0) (hf.st h p) (by omega) (by omega)) rfl (fun q h' hq => ?_)
      obtain ⟨f1, rfl, g1⟩ := hq
      rw [jx_st_st]
      refine jx_cal (S_Sheet_drawFrameDot (x := 17) (y := i) (g1.st h p) (by omega) (by omega)) rfl (fun q h' hq => ?_)
      obtain ⟨f2, rfl, g2⟩ := hq
      rw [jx_st_st]
      refine jx_cal (S_Sheet_drawFrameDot (x := 17 - i) (y := 17) (g2.st h p) (by omega) (by omega)) (by rw [jn_17 (by omega)]) (fun q h' hq => ?_)
      obtain ⟨f3, rfl, g3⟩ := hq
      rw [jx_st_st]
      refine jx_cal (S_Sheet_drawFrameDot (x := 0) (y := 17 - i) (g3.st h p) (by omega) (by omega)) (by rw [jn_17 (by omega)]) (fun q h' hq => ?_)
      obtain ⟨f4, rfl, g4⟩ := hq
      rw [jx_st_st]
      refine jv_to (V := V) (ih f4 (g4.congr (fun a b ha hb => ?_))) (by rw [nI_add]) rfl rfl
      by_cases c4 : a = 0 ∧ b = 17 - i
      · rw [if_pos c4, if_pos (by omega), c4.1, c4.2]
      rw [if_neg c4]
      by_cases c3 : a = 17 - i ∧ b = 17
      · rw [if_pos c3, if_pos (by omega), c3.1, c3.2]
      rw [if_neg c3]
      by_cases c2 : a = 17 ∧ b = i
      · rw [if_pos c2, if_pos (by omega), c2.1, c2.2]
      rw [if_neg c2]
      by_cases c1 : a = i ∧ b = 0
      · rw [if_pos c1, if_pos (by omega), c1.1, c1.2]
      rw [if_neg c1]
      exact if_iff ⟨fun q => by omega, fun q => by omega⟩)
  refine rule (Nat.beq 2) 10 0 _ _ _ ?_
  refine jv_to (V := V) (loop 0 (Nat.zero_le _) (h 4 p) (hL.congr (fun a b ha hb => ?_))) rfl rfl (jx_st_id h 4 p).symm
  rw [if_neg (by omega)]
/-- the dot at x, y of the page turned t times -/
def tu (t : Nat) (D : Nat → Nat → Bool) : Nat → Nat → Bool := fun x y => if t = 1 then D y (17 - x) else if t = 2 then D (17 - x) (17 - y) else if t = 3 then D (17 - y) x else D x y
theorem S_Sheet_isBlackTurned {p x y t : Nat} {D : Nat → Nat → Bool} {h : jxH} (hL : LN (h 4 p) D) (hx : x < 18) (hy : y < 18) (ht : t < 4) : jx_MW 50 [jR 3 p, jI (nI x), jI (nI y), jI (nI t)] h (fun r h' => r = nI (tu t D x y).toNat ∧ h' = h) := by
  refine jx_MW_by [some (jR 3 p), some (jI (nI x)), some (jI (nI y)), some (jI (nI t))] (by decide) rfl (Nat.le_of_ble_eq_true rfl) (fun V rule => ?_)
  refine rule (fun _ => false) 20 0 _ _ _ ?_
  have b01 : ∀ b : Bool, nI b.toNat = nI 0 ∨ nI b.toNat = nI 1 := fun b => by cases b; exact Or.inl rfl; exact Or.inr rfl
  refine pk_eq t 1 (fun q => ?_) (fun q1 => ?_)
  · refine jx_cal (S_Sheet_isBlack (x := y) (y := 17 - x) hL (by omega) (by omega)) (by rw [jn_17 (by omega)]) (fun r h' hq => ?_)
    obtain ⟨rfl, rfl⟩ := hq
    exact And.intro (b01 _) (And.intro (by rw [tu, if_pos q]) rfl)
  refine pk_eq t 2 (fun q => ?_) (fun q2 => ?_)
  · refine jx_cal (S_Sheet_isBlack (x := 17 - x) (y := 17 - y) hL (by omega) (by omega)) (by rw [jn_17 (by omega), jn_17 (by omega)]) (fun r h' hq => ?_)
    obtain ⟨rfl, rfl⟩ := hq
    exact And.intro (b01 _) (And.intro (by rw [tu, if_neg q1, if_pos q]) rfl)
  refine pk_eq t 3 (fun q => ?_) (fun q3 => ?_)
  · refine jx_cal (S_Sheet_isBlack (x := 17 - y) (y := x) hL (by omega) (by omega)) (by rw [jn_17 (by omega)]) (fun r h' hq => ?_)
    obtain ⟨rfl, rfl⟩ := hq
    exact And.intro (b01 _) (And.intro (by rw [tu, if_neg q1, if_neg q2, if_pos q]) rfl)
  · refine jx_cal (S_Sheet_isBlack hL hx hy) rfl (fun r h' hq => ?_)
    obtain ⟨rfl, rfl⟩ := hq
    exact And.intro (b01 _) (And.intro (by rw [tu, if_neg q1, if_neg q2, if_neg q3]) rfl)
def ff (D : Nat → Nat → Bool) (x y : Nat) : Nat := if D x y = fr x y then 0 else 1
theorem S_Sheet_frameFault {p x y t : Nat} {D : Nat → Nat → Bool} {h : jxH} (hL : LN (h 4 p) D) (hx : x < 18) (hy : y < 18) (ht : t < 4) : jx_MW 81 [jR 3 p, jI (nI x), jI (nI y), jI (nI t)] h (fun r h' => r = nI (ff (tu t D) x y) ∧ h' = h) := by
  refine jx_MW_by [some (jR 3 p), some (jI (nI x)), some (jI (nI y)), some (jI (nI t))] (by decide) rfl (Nat.le_of_ble_eq_true rfl) (fun V rule => ?_)
  refine rule (fun _ => false) 20 0 _ _ _ ?_
  refine jx_cal (S_Sheet_isBlackTurned hL hx hy ht) rfl (fun r h' hq => ?_)
  obtain ⟨rfl, rfl⟩ := hq
  refine jx_cal (S_Sheet_isFrameBlack hx hy) rfl (fun r h2 hq => ?_)
  obtain ⟨rfl, rfl⟩ := hq
  refine pk_eq (tu t D x y).toNat (fr x y).toNat (fun q => ?_) (fun q => ?_) rfl rfl (by have := toNat_le (tu t D x y); omega) (by have := toNat_le (fr x y); omega)
  · exact And.intro (by rw [ff, if_pos (toNat_inj.mp q)]) rfl
  · exact And.intro (by rw [ff, if_neg (fun z => q (toNat_inj.mpr z))]) rfl
/-- the frame's faults, in the order in which the class counts them -/
def fts (D : Nat → Nat → Bool) : Nat → Nat
  | 0 => 0
  | i + 1 => fts D i + ff D i 0 + ff D 17 i + ff D (17 - i) 17 + ff D 0 (17 - i)
theorem ff_le (D : Nat → Nat → Bool) (x y : Nat) : ff D x y ≤ 1 := by unfold ff; split <;> omega
theorem fts_le (D : Nat → Nat → Bool) : ∀ i, fts D i ≤ 4 * i
  | 0 => Nat.le_refl _
  | i + 1 => by
    have h1 := fts_le D i
    have h2 := ff_le D i 0
    have h3 := ff_le D 17 i
    have h4 := ff_le D (17 - i) 17
    have h5 := ff_le D 0 (17 - i)
    show fts D i + ff D i 0 + ff D 17 i + ff D (17 - i) 17 + ff D 0 (17 - i) ≤ _
    omega
theorem S_Sheet_frameFaults {p t : Nat} {D : Nat → Nat → Bool} {h : jxH} (hL : LN (h 4 p) D) (ht : t < 4) : jx_MW 94 [jR 3 p, jI (nI t)] h (fun r h' => r = nI (fts (tu t D) 17) ∧ h' = h) := by
  refine jx_MW_by [some (jR 3 p), some (jI (nI t)), none, none] (by decide) rfl (Nat.le_of_ble_eq_true rfl) (fun V rule => ?_)
  have loop := jl_up (P := fun i => V 4 [some (jR 3 p), some (jI (nI t)), some (jI (nI (fts (tu t D) i))), some (jI (nI i))] [] h) 17
    (by
      refine rule (fun _ => false) 10 4 _ _ _ ?_
      refine pk_le 17 17 (fun _ => ?_) (fun q => absurd q (Nat.lt_irrefl _))
      exact And.intro rfl rfl)
    (fun i hi ih => by
      refine rule (Nat.beq 4) 60 4 _ _ _ ?_
      refine pk_le 17 i (fun q => absurd q (by omega)) (fun _ => ?_)
      refine jx_cal (S_Sheet_frameFault (x := i) (y := 0) hL (by omega) (by omega) ht) rfl (fun r h' hq => ?_)
      obtain ⟨rfl, rfl⟩ := hq
      refine jx_cal (S_Sheet_frameFault (x := 17) (y := i) hL (by omega) (by omega) ht) rfl (fun r h' hq => ?_)
      obtain ⟨rfl, rfl⟩ := hq
      refine jx_cal (S_Sheet_frameFault (x := 17 - i) (y := 17) hL (by omega) (by omega) ht) (by rw [jn_17 (by omega)]) (fun r h' hq => ?_)
      obtain ⟨rfl, rfl⟩ := hq
      refine jx_cal (S_Sheet_frameFault (x := 0) (y := 17 - i) hL (by omega) (by omega) ht) (by rw [jn_17 (by omega)]) (fun r h' hq => ?_)
      obtain ⟨rfl, rfl⟩ := hq
      exact jv_to (V := V) ih (by rw [nI_add, nI_add, nI_add, nI_add, nI_add]; rfl) rfl rfl)
  refine rule (Nat.beq 4) 10 0 _ _ _ ?_
  exact loop 0 (Nat.zero_le _)
