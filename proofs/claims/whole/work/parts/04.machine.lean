/-! The pure machine: values are ints or cells (kind, number); the heap is a function kind, number, slot ↦ int; all references are fixed by the layout. 'jx_op' says in pure terms what one instruction does; 'jx_V' is the judgement W under this picture; 'jx_step' ties them. -/
abbrev jxV : Type := Int32 ⊕ ((Nat × Nat) ⊕ Int32)
abbrev jxH : Type := Nat → Nat → Nat → Int32
abbrev jxG : Type := va_G × (Nat → ClassId) × (Nat → Nat → Nat)
abbrev jxL : Type := List (Option jxV)
/-- an int, a cell, a long that is an int -/
def jx_cv (G : jxG) (v : jxV) : Value := match v with
  | .inl x => .int x
  | .inr (.inl r) => .ref (G.2.2 r.1 r.2)
  | .inr (.inr x) => .long x.toInt64
abbrev jI (x : Int32) : jxV := .inl x
abbrev jR (k i : Nat) : jxV := .inr (.inl (k, i))
abbrev jJ (x : Int32) : jxV := .inr (.inr x)
def jx_w1 (v : jxV) : Prop := match v with
  | .inr (.inr _) => False
  | _ => True
theorem jx_cv_cat (G : jxG) {v : jxV} (h : jx_w1 v) : (jx_cv G v).category = 1 := by
  match v, h with
  | .inl _, _ => rfl
  | .inr (.inl _), _ => rfl
def jx_wg : List jxV → Nat
  | [] => 0
  | .inl _ :: t => jx_wg t + 1
  | .inr (.inl _) :: t => jx_wg t + 1
  | .inr (.inr _) :: t => jx_wg t + 2
def jx_ok (v : jxV) : Prop := match v with
  | .inr (.inl r) => r.2 < jx_ct r.1
  | _ => True
/-- the cell (k, i) gets the contents f -/
def jx_st (h : jxH) (k i : Nat) (f : Nat → Int32) : jxH := fun k' i' => if k' = k then (if i' = i then f else h k' i') else h k' i'
theorem jx_st_same (h : jxH) (k i : Nat) (f : Nat → Int32) : jx_st h k i f k i = f := by simp [jx_st]
theorem jx_st_ne {h : jxH} {k i k' i' : Nat} {f : Nat → Int32} (hn : (k', i') ≠ (k, i)) : jx_st h k i f k' i' = h k' i' := by
  unfold jx_st
  by_cases hk : k' = k
  · by_cases hi : i' = i
    · exact absurd (by rw [hk, hi]) hn
    · rw [if_pos hk, if_neg hi]
  · rw [if_neg hk]
def jx_fv (G : jxG) (i : Nat) (f : Nat → Int32) (j : Nat) (d : Option (Nat × Option Nat)) : Value := match d with
  | none => .int (f j)
  | some q => .ref (G.2.2 q.1 (q.2.getD i))
def jx_cf (G : jxG) (k i : Nat) (f : Nat → Int32) : va_E := match jx_fl k with
  | some q => .inr (q.1, q.2.mapIdx (jx_fv G i f))
  | none => match jx_ar k with
    | some q => .inl (G.2.1 q.1, q.2, cond (Nat.beq q.1 4) (.inr (.inl (fun j => (f j).toInt64))) (.inl f))
    | none => match jx_ra k with
      | some q => .inl (G.2.1 q.1, q.2.1, .inr (.inr (.inr (.inr (fun j => some (G.2.2 q.2.2 j))))))
      | none => .inr (0, [])
def jx_ws (G : jxG) (h : jxH) : va_W := jx_ls.map (fun r => (G.2.2 r.1 r.2, jx_cf G r.1 r.2 (h r.1 r.2)))
theorem jx_at {G : jxG} {h : jxH} {k i q0 : Nat} (h0 : jx_ls[q0]? = some (k, i)) : (jx_ws G h)[q0]? = some (G.2.2 k i, jx_cf G k i (h k i)) := by
  simp [jx_ws, h0]
theorem jx_find {k i : Nat} (hi : i < jx_ct k) (hc : jx_cel k = true) : ∃ q0 : Nat, jx_ls[q0]? = some (k, i) :=
  List.getElem?_of_mem (jx_in_ls k i hi hc)
theorem jx_sets {G : jxG} {A : Nat → Prop} {h : jxH} {k i q0 : Nat} {f : Nat → Int32} (hD : va_D A (jx_ws G h)) (h0 : jx_ls[q0]? = some (k, i)) : (jx_ws G h).set q0 (G.2.2 k i, jx_cf G k i f) = jx_ws G (jx_st h k i f) := by
  apply List.ext_getElem?
  intro j
  by_cases hj : j = q0
  · subst hj
    have hl := (List.getElem?_eq_some_iff.mp (jx_at (G := G) (h := h) h0)).1
    rw [List.getElem?_set_self hl, jx_at h0, jx_st_same]
  · rw [List.getElem?_set_ne (Ne.symm hj)]
    cases hr : jx_ls[j]? with
    | none => simp [jx_ws, hr]
    | some r =>
      obtain ⟨a, b⟩ := r
      have hne : (a, b) ≠ (k, i) := by
        intro hh
        rw [hh] at hr
        exact hj (hD.1 j q0 _ _ (jx_at hr) (jx_at h0) rfl)
      rw [jx_at hr, jx_at hr, jx_st_ne hne]
theorem jx_D_any {G : jxG} {A : Nat → Prop} {h h' : jxH} (hD : va_D A (jx_ws G h)) : va_D A (jx_ws G h') := by
  have key : ∀ (k : Nat) (q : Nat × va_E), (jx_ws G h')[k]? = some q → ∃ q0, (jx_ws G h)[k]? = some q0 ∧ q0.1 = q.1 := by
    intro k q hk
    cases hr : jx_ls[k]? with
    | none => simp [jx_ws, hr] at hk
    | some r =>
      obtain ⟨a, b⟩ := r
      rw [jx_at hr] at hk
      cases hk
      exact ⟨_, jx_at hr, rfl⟩
  refine ⟨fun i j x y hi hj hxy => ?_, fun k q hk => ?_⟩
  · obtain ⟨x0, h1, h2⟩ := key i x hi
    obtain ⟨y0, h3, h4⟩ := key j y hj
    exact hD.1 i j x0 y0 h1 h3 (h2.trans (hxy.trans h4.symm))
  · obtain ⟨q0, h1, h2⟩ := key k q hk
    rw [← h2]
    exact hD.2 k q0 h1
theorem jx_A_any {G : jxG} {h h' : jxH} {sz q : Nat} (hq : va_A (jx_ws G h) sz q) : va_A (jx_ws G h') sz q := by
  rcases hq with ⟨k, e, hk⟩ | hk
  · refine Or.inl ⟨k, ?_⟩
    cases hr : jx_ls[k]? with
    | none => simp [jx_ws, hr] at hk
    | some r =>
      obtain ⟨a, b⟩ := r
      rw [jx_at hr] at hk
      cases hk
      exact ⟨_, jx_at hr⟩
  · exact Or.inr hk
abbrev jx_ty (G : jxG) : List (ClassId × FieldType) := jx_tl.mapIdx (fun j t => (G.2.1 j, t))
theorem jx_ty_at {G : jxG} {j : Nat} {t : FieldType} (h : jx_tl[j]? = some t) : (jx_ty G)[j]? = some (G.2.1 j, t) := by
  simp [jx_ty, h]
/-- the static tables: what they hold, and that nobody writes them -/
def jx_SF (G : jxG) (A : Nat → Prop) (U : State) (H : Heap) : Prop :=
  ∀ k q, jx_tv k = some q → va_Z q.1 q.2.1 "[I" (.ref (G.2.2 k 0)) A U H ∧ va_T .int (G.2.2 k 0) q.2.2.length (fun j => .int (nI (q.2.2.getD j 0))) A U H
def jx_PX (G : jxG) (h : jxH) (U : State) : Prop :=
  va_P G.1 jx_cl (jx_ws G h) U.heap ∧ va_K G.1 jx_cl (jx_ty G) U ∧ va_D (fun _ => True) (jx_ws G h) ∧ jx_SF G (va_A (jx_ws G h) U.heap.size) U U.heap
def jx_rv (κ : Nat) (r : Int32) : Option Value := match jx_rt κ with
  | none => none
  | some _ => some (.int r)
def jx_Qc (G : jxG) (κ : Nat) (A : Nat → Prop) (E : Int32 → jxH → Prop) : Array Value → State → Outcome → State → Prop := fun _ st oc t =>
  (∃ (r : Int32) (h' : jxH), oc = .returned (jx_rv κ r) ∧ E r h' ∧ jx_PX G h' t) ∧ va_F A st t
def jx_rm (κ : Nat) : Room := { frames := jx_dp κ, cells := 0, slots := 0, locals := jx_lc κ }
def jx_wd (κ : Nat) : List Cond := .code (jx_nm κ) (jx_cd κ) (jx_mx κ) (jx_rt κ) :: jx_all
/-- the contract of method κ, at arguments and heap: it returns, with E of its answer and of the heap behind it -/
def jx_MW (κ : Nat) (as : List jxV) (h : jxH) (E : Int32 → jxH → Prop) : Prop :=
  ∀ (l : Launch) (G : jxG) (sz : Nat), (∀ v ∈ as, jx_ok v) → (∀ v ∈ as, jx_w1 v) → Met l (jx_nm κ) (jx_wd κ) (jx_rm κ) (va_Pc (as.map (jx_cv G)) (fun U => U.heap.size = sz ∧ jx_PX G h U)) (jx_Qc G κ (va_A (jx_ws G h) sz) E) 0 0 (va_A (jx_ws G h) sz)
theorem jx_SF_kept {G : jxG} {A : Nat → Prop} {U : State} {H H1 : Heap} (h : jx_SF G A U H) (hq : ∀ a : Nat, a < H.size → ¬ A a → H1[a]? = H[a]?) : jx_SF G A U H1 :=
  fun k q hk => ⟨(h k q hk).1.kept hq, (h k q hk).2.kept hq⟩
theorem jx_SF_moved {G : jxG} {A : Nat → Prop} {u U : State} {H : Heap} (hvm : u.vm.Alike U.vm) (h : jx_SF G A u H) : jx_SF G A U H :=
  fun k q hk => ⟨(h k q hk).1.moved hvm, (h k q hk).2.moved hvm⟩
theorem jx_SF_narrow {G : jxG} {A B : Nat → Prop} {U : State} {H : Heap} (h : jx_SF G A U H) (hAB : ∀ q, B q → A q) : jx_SF G B U H :=
  fun k q hk => ⟨(h k q hk).1.narrow hAB, (h k q hk).2.narrow hAB⟩
theorem jx_MW_mono {κ : Nat} {as : List jxV} {h : jxH} {E E' : Int32 → jxH → Prop} (hM : jx_MW κ as h E) (hE : ∀ r h', E r h' → E' r h') : jx_MW κ as h E' := by
  intro l G sz hok hk1 p e ha hc hk s m args below hf happ hP hK
  obtain ⟨n, o, h1, h2, h3, ⟨⟨⟨r, h', e1, e2, e3⟩, e4⟩, h5⟩⟩ := hM l G sz hok hk1 p e ha hc hk s m args below hf happ hP hK
  exact ⟨n, o, h1, h2, h3, ⟨⟨⟨r, h', e1, hE r h' e2, e3⟩, e4⟩, h5⟩⟩
-- locals
def jx_lo (G : jxG) (la : Array Slot) (nL : Nat) (ls : jxL) : Prop := ls.length ≤ nL ∧ ∃ lv, lv_has la nL lv ∧ ∀ (j : Nat) (v : jxV), ls[j]? = some (some v) → (j, jx_cv G v) ∈ lv ∧ jx_w1 v
theorem jx_lo_at {G : jxG} {la : Array Slot} {nL : Nat} {ls : jxL} (h : jx_lo G la nL ls) {j : Nat} {v : jxV} (hj : ls[j]? = some (some v)) : la[j]? = some (.val (jx_cv G v)) := by
  obtain ⟨-, lv, h1, h2⟩ := h
  exact h1.2.2 _ (h2 j v hj).1
theorem jx_lo_put {G : jxG} {la' : Array Slot} {nL : Nat} {ls : jxL} {lv : List (Nat × Value)} (hn : ls.length ≤ nL) (h2 : ∀ (j : Nat) (v : jxV), ls[j]? = some (some v) → (j, jx_cv G v) ∈ lv ∧ jx_w1 v) {i : Nat} {v : jxV} (hv : jx_w1 v) (h' : lv_has la' nL ((i, jx_cv G v) :: lv.filter (fun q => !(q.1 == i) && !(q.1 + 1 == i && q.2.category == 2)))) : jx_lo G la' nL (ls.set i (some v)) := by
  refine ⟨by simpa using hn, _, h', fun j w hj => ?_⟩
  by_cases hji : j = i
  · subst hji
    have hl : j < ls.length := by
      have := (List.getElem?_eq_some_iff.mp hj).1
      simpa using this
    rw [List.getElem?_set_self hl] at hj
    cases hj
    exact ⟨List.mem_cons_self, hv⟩
  · rw [List.getElem?_set_ne (Ne.symm hji)] at hj
    refine ⟨List.mem_cons_of_mem _ (List.mem_filter.mpr ⟨(h2 j w hj).1, ?_⟩), (h2 j w hj).2⟩
    simp [hji, jx_cv_cat G (h2 j w hj).2]
-- small eliminators, each with its inversion
def jx_1 (st : List jxV) (k : jxV → List jxV → Prop) : Prop := match st with
  | .inl x :: st => k (.inl x) st
  | .inr (.inl r) :: st => k (.inr (.inl r)) st
  | _ => False
def jx_i (st : List jxV) (k : Int32 → List jxV → Prop) : Prop := match st with
  | .inl x :: st => k x st
  | _ => False
def jx_r (st : List jxV) (k : Nat → Nat → List jxV → Prop) : Prop := match st with
  | .inr (.inl (a, b)) :: st => k a b st
  | _ => False
def jx_j (st : List jxV) (k : Int32 → List jxV → Prop) : Prop := match st with
  | .inr (.inr x) :: st => k x st
  | _ => False
theorem jx_1_inv {st : List jxV} {k : jxV → List jxV → Prop} (h : jx_1 st k) : ∃ v st', st = v :: st' ∧ jx_w1 v ∧ k v st' := by
  match st, h with
  | .inl x :: st', h => exact ⟨.inl x, st', rfl, trivial, h⟩
  | .inr (.inl r) :: st', h => exact ⟨.inr (.inl r), st', rfl, trivial, h⟩
theorem jx_j_inv {st : List jxV} {k : Int32 → List jxV → Prop} (h : jx_j st k) : ∃ x st', st = .inr (.inr x) :: st' ∧ k x st' := by
  match st, h with
  | .inr (.inr x) :: st', h => exact ⟨x, st', rfl, h⟩
theorem jx_i_inv {st : List jxV} {k : Int32 → List jxV → Prop} (h : jx_i st k) : ∃ x st', st = .inl x :: st' ∧ k x st' := by
  match st, h with
  | .inl x :: st', h => exact ⟨x, st', rfl, h⟩
theorem jx_r_inv {st : List jxV} {k : Nat → Nat → List jxV → Prop} (h : jx_r st k) : ∃ a b st', st = .inr (.inl (a, b)) :: st' ∧ k a b st' := by
  match st, h with
  | .inr (.inl (a, b)) :: st', h => exact ⟨a, b, st', rfl, h⟩
def jx_sk : jxL → Nat → Option jxV → (jxL → Prop) → Prop
  | [], _, _, _ => False
  | _ :: t, 0, v, k => k (v :: t)
  | a :: t, n + 1, v, k => jx_sk t n v (fun t' => k (a :: t'))
theorem jx_sk_inv : ∀ (ls : jxL) (n : Nat) (v : Option jxV) (k : jxL → Prop), jx_sk ls n v k → n < ls.length ∧ k (ls.set n v)
  | [], _, _, _, h => False.elim h
  | _ :: t, 0, v, k, h => ⟨Nat.succ_pos _, h⟩
  | a :: t, n + 1, v, k, h => by
    obtain ⟨h1, h2⟩ := jx_sk_inv t n v (fun t' => k (a :: t')) h
    exact ⟨Nat.succ_lt_succ h1, h2⟩
def jx_pk : Nat → List jxV → List jxV → (List jxV → List jxV → Prop) → Prop
  | 0, st, acc, k => k acc st
  | n + 1, .inl x :: st, acc, k => jx_pk n st (.inl x :: acc) k
  | n + 1, .inr (.inl r) :: st, acc, k => jx_pk n st (.inr (.inl r) :: acc) k
  | _ + 1, .inr (.inr _) :: _, _, _ => False
  | _ + 1, [], _, _ => False
theorem jx_pk_inv : ∀ (n : Nat) (st acc : List jxV) (k : List jxV → List jxV → Prop), jx_pk n st acc k → ∃ as rest, as.length = n ∧ st = as.reverse ++ rest ∧ (∀ v ∈ as, jx_w1 v) ∧ k (as ++ acc) rest
  | 0, st, acc, k, h => ⟨[], st, rfl, rfl, (fun _ h9 => absurd h9 List.not_mem_nil), h⟩
  | n + 1, .inl x :: st, acc, k, h => by
    obtain ⟨as, rest, h1, h2, h4, h3⟩ := jx_pk_inv n st (.inl x :: acc) k h
    refine ⟨as ++ [.inl x], rest, by simp [h1], by simp [h2], fun v hv => ?_, by simpa using h3⟩
    rcases List.mem_append.mp hv with h9 | h9
    · exact h4 v h9
    · rw [List.mem_singleton.mp h9]; trivial
  | n + 1, .inr (.inl r) :: st, acc, k, h => by
    obtain ⟨as, rest, h1, h2, h4, h3⟩ := jx_pk_inv n st (.inr (.inl r) :: acc) k h
    refine ⟨as ++ [.inr (.inl r)], rest, by simp [h1], by simp [h2], fun v hv => ?_, by simpa using h3⟩
    rcases List.mem_append.mp hv with h9 | h9
    · exact h4 v h9
    · rw [List.mem_singleton.mp h9]; trivial
  | _ + 1, .inr (.inr _) :: _, _, _, h => False.elim h
  | _ + 1, [], _, _, h => False.elim h
def jx_lk (ls : jxL) (n : Nat) (k : jxV → Prop) : Prop := match ls[n]? with
  | some (some v) => k v
  | _ => False
theorem jx_lk_inv {ls : jxL} {n : Nat} {k : jxV → Prop} (h : jx_lk ls n k) : ∃ v, ls[n]? = some (some v) ∧ k v := by
  unfold jx_lk at h
  split at h
  · rename_i v hv; exact ⟨v, hv, h⟩
  · exact h.elim
def jx_int (n : Int) (k : Int32 → Prop) : Prop := match n with
  | .ofNat a => cond (Nat.blt a 2048) (k (nI a)) False
  | .negSucc a => cond (Nat.blt a 100) (k (-nI (a + 1))) False
theorem jx_int_a : ∀ a, a < 2048 → Int32.ofInt (Int.ofNat a) = nI a ∧ (Int16.ofInt (Int.ofNat a)).toInt32 = nI a := by decide +kernel
theorem jx_int_b : ∀ a, a < 128 → (Int8.ofInt (Int.ofNat a)).toInt32 = nI a := by decide +kernel
theorem jx_int_c : ∀ a, a < 100 → Int32.ofInt (Int.negSucc a) = -nI (a + 1) ∧ (Int16.ofInt (Int.negSucc a)).toInt32 = -nI (a + 1) ∧ (Int8.ofInt (Int.negSucc a)).toInt32 = -nI (a + 1) := by decide +kernel
theorem jx_int_inv {n : Int} {k : Int32 → Prop} (h : jx_int n k) : ∃ x, k x ∧ Int32.ofInt n = x ∧ (Int16.ofInt n).toInt32 = x := by
  cases n with
  | ofNat a =>
    by_cases ha : a < 2048
    · have hb : Nat.blt a 2048 = true := by simpa [Nat.blt_eq] using ha
      simp only [jx_int, hb, cond_true] at h
      exact ⟨_, h, (jx_int_a a ha).1, (jx_int_a a ha).2⟩
    · have hb : Nat.blt a 2048 = false := by
        cases hq : Nat.blt a 2048 with
        | false => rfl
        | true => exact absurd (by simpa [Nat.blt_eq] using hq) ha
      simp only [jx_int, hb, cond_false] at h
  | negSucc a =>
    by_cases ha : a < 100
    · have hb : Nat.blt a 100 = true := by simpa [Nat.blt_eq] using ha
      simp only [jx_int, hb, cond_true] at h
      exact ⟨_, h, (jx_int_c a ha).1, (jx_int_c a ha).2.1⟩
    · have hb : Nat.blt a 100 = false := by
        cases hq : Nat.blt a 100 with
        | false => rfl
        | true => exact absurd (by simpa [Nat.blt_eq] using hq) ha
      simp only [jx_int, hb, cond_false] at h
def jx_byt (n : Int) (k : Int32 → Prop) : Prop := match n with
  | .ofNat a => cond (Nat.blt a 128) (k (nI a)) False
  | .negSucc a => cond (Nat.blt a 100) (k (-nI (a + 1))) False
theorem jx_byt_inv {n : Int} {k : Int32 → Prop} (h : jx_byt n k) : ∃ x, k x ∧ (Int8.ofInt n).toInt32 = x := by
  cases n with
  | ofNat a =>
    by_cases ha : a < 128
    · have hb : Nat.blt a 128 = true := by simpa [Nat.blt_eq] using ha
      simp only [jx_byt, hb, cond_true] at h
      exact ⟨_, h, jx_int_b a ha⟩
    · have hb : Nat.blt a 128 = false := by
        cases hq : Nat.blt a 128 with
        | false => rfl
        | true => exact absurd (by simpa [Nat.blt_eq] using hq) ha
      simp only [jx_byt, hb, cond_false] at h
  | negSucc a =>
    by_cases ha : a < 100
    · have hb : Nat.blt a 100 = true := by simpa [Nat.blt_eq] using ha
      simp only [jx_byt, hb, cond_true] at h
      exact ⟨_, h, (jx_int_c a ha).2.2⟩
    · have hb : Nat.blt a 100 = false := by
        cases hq : Nat.blt a 100 with
        | false => rfl
        | true => exact absurd (by simpa [Nat.blt_eq] using hq) ha
      simp only [jx_byt, hb, cond_false] at h
theorem jx_okc {v : jxV} {st : List jxV} (h : jx_ok v) (hs : ∀ v ∈ st, jx_ok v) : ∀ w ∈ v :: st, jx_ok w := by
  intro w hw
  rcases List.mem_cons.mp hw with rfl | h1
  · exact h
  · exact hs w h1
theorem jx_okt {v : jxV} {st : List jxV} (hs : ∀ w ∈ v :: st, jx_ok w) : ∀ w ∈ st, jx_ok w := fun w hw => hs w (List.mem_cons_of_mem _ hw)
theorem jx_okh {v : jxV} {st : List jxV} (hs : ∀ w ∈ v :: st, jx_ok w) : jx_ok v := hs v List.mem_cons_self
theorem jx_oki {x : Int32} {st : List jxV} (hs : ∀ v ∈ st, jx_ok v) : ∀ w ∈ (Sum.inl x : jxV) :: st, jx_ok w := jx_okc trivial hs
theorem jx_lset {ls : jxL} {n : Nat} {v : jxV} (hl : ∀ (j : Nat) (w : jxV), ls[j]? = some (some w) → jx_ok w) (hv : jx_ok v) : ∀ (j : Nat) (w : jxV), (ls.set n (some v))[j]? = some (some w) → jx_ok w := by
  intro j w hj
  by_cases hji : j = n
  · subst hji
    have hlt : j < ls.length := by
      have := (List.getElem?_eq_some_iff.mp hj).1
      simpa using this
    rw [List.getElem?_set_self hlt] at hj
    cases hj
    exact hv
  · rw [List.getElem?_set_ne (Ne.symm hji)] at hj
    exact hl j w hj
def jx_e (st : List jxV) (k : Prop) : Prop := match st with
  | [] => k
  | _ => False
theorem jx_e_inv {st : List jxV} {k : Prop} (h : jx_e st k) : st = [] ∧ k := by
  match st, h with
  | [], h => exact ⟨rfl, h⟩
def jx_t1 (tg : List Nat) (k : Nat → Prop) : Prop := match tg with
  | [t] => k t
  | _ => False
theorem jx_t1_inv {tg : List Nat} {k : Nat → Prop} (h : jx_t1 tg k) : ∃ t, tg = [t] ∧ k t := by
  match tg, h with
  | [t], h => exact ⟨t, rfl, h⟩
def jx_fe (o idx k : Nat) (f : Nat → Option (Nat × Option Nat) → Prop) : Prop := match jx_fl k with
  | some (ci, fs) => match jx_fd o idx with
    | some (ci', j) => match fs[j]? with
      | some d => cond (Nat.beq ci ci') (f j d) False
      | none => False
    | none => False
  | none => False
theorem jx_cond {b : Bool} {a : Prop} (h : cond b a False) : b = true ∧ a := by
  cases b with
  | true => exact ⟨rfl, h⟩
  | false => exact False.elim h
theorem jx_fe_inv {o idx k : Nat} {f : Nat → Option (Nat × Option Nat) → Prop} (h : jx_fe o idx k f) : ∃ ci fs j d, jx_fl k = some (ci, fs) ∧ jx_fd o idx = some (ci, j) ∧ fs[j]? = some d ∧ f j d := by
  unfold jx_fe at h
  cases h1 : jx_fl k with
  | none => rw [h1] at h; exact False.elim h
  | some q =>
    obtain ⟨ci, fs⟩ := q
    rw [h1] at h
    cases h2 : jx_fd o idx with
    | none => simp only [h2] at h
    | some q2 =>
      obtain ⟨ci', j⟩ := q2
      cases h3 : fs[j]? with
      | none => simp only [h2, h3] at h
      | some d =>
        simp only [h2, h3] at h
        obtain ⟨hb, hf⟩ := jx_cond h
        have hb := Nat.eq_of_beq_eq_true hb
        subst hb
        exact ⟨_, fs, j, d, rfl, rfl, h3, hf⟩
def jx_ae (k t : Nat) (f : Nat → Prop) : Prop := match jx_ar k with
  | some (t', n) => cond (Nat.beq t' t) (f n) False
  | none => False
theorem jx_ae_inv {k t : Nat} {f : Nat → Prop} (h : jx_ae k t f) : ∃ n, jx_ar k = some (t, n) ∧ f n := by
  unfold jx_ae at h
  cases h1 : jx_ar k with
  | none => rw [h1] at h; exact False.elim h
  | some q =>
    obtain ⟨t', n⟩ := q
    rw [h1] at h
    obtain ⟨hb, hf⟩ := jx_cond h
    have hb := Nat.eq_of_beq_eq_true hb
    subst hb
    exact ⟨n, rfl, hf⟩
def jx_sw : Nat → List Nat → Int32 → (Nat → Prop) → Prop → Prop
  | _, [], _, _, d => d
  | a, t :: ts, x, k, d => (x = nI a → k t) ∧ (¬ x = nI a → jx_sw (a + 1) ts x k d)
theorem jx_sw_inv : ∀ (ts : List Nat) (a : Nat) (x : Int32) (k : Nat → Prop) (d : Prop), jx_sw a ts x k d → (∃ j t, ts[j]? = some t ∧ x = nI (a + j) ∧ k t) ∨ ((∀ j, j < ts.length → ¬ x = nI (a + j)) ∧ d)
  | [], _, _, _, _, h => Or.inr ⟨fun _ hj => absurd hj (Nat.not_lt_zero _), h⟩
  | t :: ts, a, x, k, d, h => by
    by_cases hx : x = nI a
    · exact Or.inl ⟨0, t, rfl, hx, h.1 hx⟩
    · rcases jx_sw_inv ts (a + 1) x k d (h.2 hx) with ⟨j, t', h1, h2, h3⟩ | ⟨h1, h2⟩
      · exact Or.inl ⟨j + 1, t', by simpa using h1, by rw [h2]; congr 1; omega, h3⟩
      · refine Or.inr ⟨fun j hj => ?_, h2⟩
        cases j with
        | zero => exact hx
        | succ j =>
          have := h1 j (by simpa using hj)
          rwa [show a + 1 + j = a + (j + 1) by omega] at this
/-- what one instruction does: go on at 'go', or end with 'E' -/
def jx_op (κ : Nat) (go : Nat → jxL → List jxV → jxH → Prop) (E : Int32 → jxH → Prop) (TH : Nat → jxH → Prop) (i : Instr) (nx : Nat) (tg : List Nat) (ls : jxL) (st : List jxV) (h : jxH) : Prop :=
  match i with
  | .iconst n => jx_int n (fun x => go nx ls (.inl x :: st) h)
  | .bipush n => jx_byt n (fun x => go nx ls (.inl x :: st) h)
  | .sipush n => jx_int n (fun x => go nx ls (.inl x :: st) h)
  | .iload j => jx_lk ls j (fun v => jx_i (v :: st) (fun x st => go nx ls (.inl x :: st) h))
  | .iload_n j => jx_lk ls j.val (fun v => jx_i (v :: st) (fun x st => go nx ls (.inl x :: st) h))
  | .aload j => jx_lk ls j (fun v => jx_r (v :: st) (fun a b st => go nx ls (.inr (.inl (a, b)) :: st) h))
  | .aload_n j => jx_lk ls j.val (fun v => jx_r (v :: st) (fun a b st => go nx ls (.inr (.inl (a, b)) :: st) h))
  | .istore j => jx_i st (fun x st => jx_sk ls j (some (.inl x)) (fun ls => go nx ls st h))
  | .istore_n j => jx_i st (fun x st => jx_sk ls j.val (some (.inl x)) (fun ls => go nx ls st h))
  | .astore j => jx_r st (fun a b st => jx_sk ls j (some (.inr (.inl (a, b)))) (fun ls => go nx ls st h))
  | .astore_n j => jx_r st (fun a b st => jx_sk ls j.val (some (.inr (.inl (a, b)))) (fun ls => go nx ls st h))
  | .iinc j n => jx_lk ls j (fun v => jx_i (v :: st) (fun x st => jx_int n (fun d => jx_sk ls j (some (.inl (x + d))) (fun ls => go nx ls st h))))
  | .iadd => jx_i st (fun y st => jx_i st (fun x st => go nx ls (.inl (x + y) :: st) h))
  | .isub => jx_i st (fun y st => jx_i st (fun x st => go nx ls (.inl (x - y) :: st) h))
  | .imul => jx_i st (fun y st => jx_i st (fun x st => go nx ls (.inl (x * y) :: st) h))
  | .iand => jx_i st (fun y st => jx_i st (fun x st => go nx ls (.inl (x &&& y) :: st) h))
  | .ior => jx_i st (fun y st => jx_i st (fun x st => go nx ls (.inl (x ||| y) :: st) h))
  | .ixor => jx_i st (fun y st => jx_i st (fun x st => go nx ls (.inl (x ^^^ y) :: st) h))
  | .ishl => jx_i st (fun y st => jx_i st (fun x st => go nx ls (.inl (x <<< (y &&& 31)) :: st) h))
  | .ishr => jx_i st (fun y st => jx_i st (fun x st => go nx ls (.inl (x >>> (y &&& 31)) :: st) h))
  | .idiv => jx_i st (fun y st => jx_i st (fun x st => (¬ y = 0) ∧ go nx ls (.inl (x / y) :: st) h))
  | .irem => jx_i st (fun y st => jx_i st (fun x st => (¬ y = 0) ∧ go nx ls (.inl (x - x / y * y) :: st) h))
  | .dup => jx_1 st (fun v st => go nx ls (v :: v :: st) h)
  | .pop => jx_1 st (fun _ st => go nx ls st h)
  | .dup2 => jx_1 st (fun v st => jx_1 st (fun w st => go nx ls (v :: w :: v :: w :: st) h))
  | .dup_x1 => jx_1 st (fun v st => jx_1 st (fun w st => go nx ls (v :: w :: v :: st) h))
  | .dup_x2 => jx_1 st (fun v st => jx_1 st (fun w st => jx_1 st (fun z st => go nx ls (v :: w :: z :: v :: st) h)))
  | .i2l => jx_i st (fun x st => go nx ls (.inr (.inr x) :: st) h)
  | .lconst n => go nx ls (.inr (.inr (nI n.val)) :: st) h
  | .lcmp => jx_j st (fun y st => jx_j st (fun x st => (x = y → go nx ls (.inl (nI 0) :: st) h) ∧ (¬ x = y → ∀ r, ¬ r = 0 → go nx ls (.inl r :: st) h)))
  | .laload => jx_i st (fun x st => jx_r st (fun k i st => jx_ae k 4 (fun n => ∃ j, (j < n ∧ x = nI j) ∧ go nx ls (.inr (.inr (h k i j)) :: st) h)))
  | .lastore => jx_j st (fun v st => jx_i st (fun x st => jx_r st (fun k i st => jx_ae k 4 (fun n => ∃ j, (j < n ∧ x = nI j) ∧ go nx ls st (jx_st h k i (upd (h k i) j v))))))
  | .tableswitch _ lo _ _ => match tg with
    | d :: ts => jx_i st (fun x st => jx_sw lo.toNat ts x (fun t => go t ls st h) (go d ls st h))
    | [] => False
  | .goto _ => jx_t1 tg (fun t => go t ls st h)
  | .ifCond cd _ => jx_t1 tg (fun t => jx_i st (fun x st => match cd with
    | .eq => (x = 0 → go t ls st h) ∧ (¬ x = 0 → go nx ls st h)
    | .ne => (x = 0 → go nx ls st h) ∧ (¬ x = 0 → go t ls st h)
    | .lt => (x < 0 → go t ls st h) ∧ (¬ x < 0 → go nx ls st h)
    | .ge => (0 ≤ x → go t ls st h) ∧ (¬ 0 ≤ x → go nx ls st h)
    | .gt => (0 < x → go t ls st h) ∧ (¬ 0 < x → go nx ls st h)
    | .le => (x ≤ 0 → go t ls st h) ∧ (¬ x ≤ 0 → go nx ls st h)))
  | .if_icmp cd _ => jx_t1 tg (fun t => jx_i st (fun y st => jx_i st (fun x st => match cd with
    | .eq => (x = y → go t ls st h) ∧ (¬ x = y → go nx ls st h)
    | .ne => (x = y → go nx ls st h) ∧ (¬ x = y → go t ls st h)
    | .lt => (x < y → go t ls st h) ∧ (¬ x < y → go nx ls st h)
    | .ge => (y ≤ x → go t ls st h) ∧ (¬ y ≤ x → go nx ls st h)
    | .gt => (y < x → go t ls st h) ∧ (¬ y < x → go nx ls st h)
    | .le => (x ≤ y → go t ls st h) ∧ (¬ x ≤ y → go nx ls st h))))
  | .getfield idx => jx_r st (fun k i st => jx_fe (jx_ow κ) idx k (fun j d => match d with
    | none => go nx ls (.inl (h k i j) :: st) h
    | some (k', some c) => go nx ls (.inr (.inl (k', c)) :: st) h
    | some (k', none) => go nx ls (.inr (.inl (k', i)) :: st) h))
  | .putfield idx => jx_i st (fun x st => jx_r st (fun k i st => jx_fe (jx_ow κ) idx k (fun j d => match d with
    | none => go nx ls st (jx_st h k i (upd (h k i) j x))
    | some _ => False)))
  | .getstatic idx => match jx_sd (jx_ow κ) idx with
    | some k => go nx ls (.inr (.inl (k, 0)) :: st) h
    | none => False
  | .iaload => jx_i st (fun x st => jx_r st (fun k i st => match jx_tv k with
    | some q => ∃ j, (j < q.2.2.length ∧ x = nI j) ∧ go nx ls (.inl (nI (q.2.2.getD j 0)) :: st) h
    | none => jx_ae k 0 (fun n => ∃ j, (j < n ∧ x = nI j) ∧ go nx ls (.inl (h k i j) :: st) h)))
  | .baload => jx_i st (fun x st => jx_r st (fun k i st => jx_ae k 1 (fun n => ∃ j, (j < n ∧ x = nI j) ∧ go nx ls (.inl (h k i j) :: st) h)))
  | .iastore => jx_i st (fun v st => jx_i st (fun x st => jx_r st (fun k i st => jx_ae k 0 (fun n => ∃ j, (j < n ∧ x = nI j) ∧ go nx ls st (jx_st h k i (upd (h k i) j v))))))
  | .bastore => jx_i st (fun v st => jx_i st (fun x st => jx_r st (fun k i st => jx_ae k 1 (fun n => ∃ j, (j < n ∧ x = nI j ∧ (v = nI 0 ∨ v = nI 1)) ∧ go nx ls st (jx_st h k i (upd (h k i) j v))))))
  | .aaload => jx_i st (fun x st => jx_r st (fun k _ st => match jx_ra k with
    | some (_, n, k') => ∃ j, (j < n ∧ x = nI j) ∧ go nx ls (.inr (.inl (k', j)) :: st) h
    | none => False))
  | .ireturn => jx_i st (fun x st => jx_e st (match jx_rt κ with
    | some .int => E x h
    | some .boolean => (x = nI 0 ∨ x = nI 1) ∧ E x h
    | _ => False))
  | .new idx => jx_e st (match jx_ex (jx_ow κ) idx with
    | some x => TH x h
    | none => False)
  | .return_ => jx_e st (match jx_rt κ with
    | none => E (nI 0) h
    | some _ => False)
  | .invokevirtual idx => match jx_md (jx_ow κ) idx with
    | some κ' => jx_pk (jx_np κ') st [] (fun as rest => match as with
      | .inr (.inl (k, b)) :: as' => match jx_fl k with
        | some (ci, _) => cond (Nat.beq ci (jx_ow κ') && (jx_is κ' == false) && Nat.ble (jx_wg rest) 8 && Nat.blt (jx_dp κ') (jx_dp κ) && Nat.ble (19 + jx_mx κ' + jx_lc κ') (jx_lc κ)) (match jx_rt κ' with
          | none => jx_MW κ' (.inr (.inl (k, b)) :: as') h (fun _ h' => go nx ls rest h')
          | some _ => jx_MW κ' (.inr (.inl (k, b)) :: as') h (fun r h' => go nx ls (.inl r :: rest) h')) False
        | none => False
      | _ => False)
    | none => False
  | .invokestatic idx => match jx_md (jx_ow κ) idx with
    | some κ' => jx_pk (jx_np κ') st [] (fun as rest => cond (jx_is κ' && Nat.ble (jx_wg rest) 8 && Nat.blt (jx_dp κ') (jx_dp κ) && Nat.ble (19 + jx_mx κ' + jx_lc κ') (jx_lc κ)) (match jx_rt κ' with
          | none => jx_MW κ' as h (fun _ h' => go nx ls rest h')
          | some _ => jx_MW κ' as h (fun r h' => go nx ls (.inl r :: rest) h')) False)
    | none => match jx_sp (jx_ow κ) idx with
      | some 0 => jx_i st (fun y st => jx_i st (fun x st => cond (Nat.ble (jx_wg st) 8 && Nat.blt 0 (jx_dp κ) && Nat.ble 21 (jx_lc κ)) (go nx ls (.inl (if y < x then y else x) :: st) h) False))
      | some 1 => jx_i st (fun n st => jx_i st (fun dp st => jx_r st (fun k1 i1 st => jx_i st (fun sp st => jx_r st (fun k0 i0 st => jx_ae k0 0 (fun n0 => jx_ae k1 0 (fun n1 => cond (Nat.ble (jx_wg st) 8 && Nat.blt 0 (jx_dp κ) && Nat.ble 48 (jx_lc κ)) (∃ a b c, (sp = nI a ∧ dp = nI b ∧ n = nI c ∧ a + c ≤ n0 ∧ b + c ≤ n1) ∧ go nx ls st (jx_st h k1 i1 (va_cpy (h k0 i0) (h k1 i1) a b c))) False)))))))
      | _ => False
  | _ => False
