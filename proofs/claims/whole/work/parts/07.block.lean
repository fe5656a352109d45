/-! A block of instructions, up to the cut points; a method's contract by its blocks. -/
def jx_blk (κ : Nat) (cut : Nat → Bool) (V : Nat → jxL → List jxV → jxH → Prop) (E : Int32 → jxH → Prop) (TH : Nat → jxH → Prop) : Nat → Nat → jxL → List jxV → jxH → Prop
  | 0, pc, ls, st, h => V pc ls st h
  | n + 1, pc, ls, st, h => match jx_ent κ pc with
    | some (i, nx, tg) => jx_op κ (fun pc' ls' st' h' => cond (cut pc') (V pc' ls' st' h') (jx_blk κ cut V E TH n pc' ls' st' h')) E TH i nx tg ls st h
    | none => False
section JB
variable {p : Program} {l : Launch} {e : Env} {R : Room} {s : State} {m : MethodId} {args : Array Value} {below : List Frame} {meth : Method} {c : Code} {G : jxG} {A : Nat → Prop} {κ cs ss : Nat} {E : Int32 → jxH → Prop} {TH : Nat → jxH → Prop} {Qf : State → Prop}
theorem jx_blk_ok (X : jx_X p R s m args meth c G A κ cs ss) (hfin : ∀ t, MQ below (jx_Qc G κ A E) args s cs ss A t → Qf t) (hth : ∀ pc nx idx tg ls h x, jx_ent κ pc = some (.new idx, nx, tg) → jx_ex (jx_ow κ) idx = some x → TH x h → jx_V p l e R s m args below meth c G A κ cs ss Qf pc ls [] h) (cut : Nat → Bool) : ∀ (n pc : Nat) (ls : jxL) (st : List jxV) (h : jxH), jx_blk κ cut (jx_V p l e R s m args below meth c G A κ cs ss Qf) E TH n pc ls st h → jx_V p l e R s m args below meth c G A κ cs ss Qf pc ls st h
  | 0, pc, ls, st, h, hb => hb
  | n + 1, pc, ls, st, h, hb => by
    unfold jx_blk at hb
    cases hent : jx_ent κ pc with
    | none => rw [hent] at hb; exact False.elim hb
    | some q =>
      obtain ⟨i, nx, tg⟩ := q
      rw [hent] at hb
      refine jx_step X hfin hth (fun pc' ls' st' h' hg => ?_) hent hb
      cases hc : cut pc' with
      | true => simpa only [hc, cond_true] using hg
      | false =>
        have hg' : jx_blk κ cut (jx_V p l e R s m args below meth c G A κ cs ss Qf) E TH n pc' ls' st' h' := by simpa only [hc, cond_false] using hg
        exact jx_blk_ok X hfin hth cut n pc' ls' st' h' hg'
end JB
theorem jx_args_mem (G : jxG) : ∀ (as : List jxV) (n j : Nat) (v : jxV), (∀ w ∈ as, jx_w1 w) → as[j]? = some v → (n + j, jx_cv G v) ∈ lv_args n (as.map (jx_cv G))
  | [], _, _, _, _, h => by simp at h
  | a :: as, n, 0, v, _, h => by
    rw [List.getElem?_cons_zero] at h
    cases h
    simp [lv_args]
  | a :: as, n, j + 1, v, hk, h => by
    rw [List.getElem?_cons_succ] at h
    have := jx_args_mem G as (n + 1) j v (fun w hw => hk w (List.mem_cons_of_mem _ hw)) h
    rw [List.map_cons, lv_args, if_neg (by rw [jx_cv_cat G (hk a List.mem_cons_self)]; decide)]
    refine List.mem_cons_of_mem _ ?_
    rw [show n + (j + 1) = n + 1 + j by omega]
    exact this
theorem jx_sl_len (G : jxG) : ∀ as : List jxV, (∀ w ∈ as, jx_w1 w) → (lg_sl (as.map (jx_cv G))).length = as.length
  | [], _ => rfl
  | a :: as, hk => by
    have := jx_sl_len G as (fun w hw => hk w (List.mem_cons_of_mem _ hw))
    unfold lg_sl at this ⊢
    rw [List.map_cons, List.flatMap_cons, List.length_append, this, if_neg (by rw [jx_cv_cat G (hk a List.mem_cons_self)]; decide)]
    simp only [List.length_cons, List.length_nil]
    omega
set_option maxHeartbeats 1000000 in
theorem jx_MW_by {κ : Nat} {as : List jxV} {h : jxH} {E : Int32 → jxH → Prop} (ls : jxL) (hκ : κ < jx_nn) (hls : as.map some ++ List.replicate (jx_mx κ - as.length) none = ls) (hn : as.length ≤ jx_mx κ)
    (body : ∀ V : Nat → jxL → List jxV → jxH → Prop, (∀ (cut : Nat → Bool) (n pc : Nat) (ls : jxL) (st : List jxV) (h : jxH), jx_blk κ cut V E (fun _ _ => False) n pc ls st h → V pc ls st h) → V 0 ls [] h) : jx_MW κ as h E := by
  intro l G sz hok hk1
  refine Met.ofW (cc := jx_cd κ) (maxL := jx_mx κ) (ret := jx_rt κ) (jx_plain hκ) rfl ?_
  intro p e s m args below meth c s₁ B hml hv
  obtain ⟨rfl, hsz, hP, hK, hD0, hSF⟩ := hv
  subst hsz
  have hD := hD0.self (sz := s.heap.size)
  have X : jx_X p (headSpec (jx_wd κ) (jx_rm κ)).room s m ((as.map (jx_cv G)).toArray) meth c G (va_A (jx_ws G h) s.heap.size) κ 0 0 := by
    refine ⟨B.exec, B.bytes, hml, findClass_of_methodNamed B.named, fun w hw => atoms_spec (ws := jx_wd κ) B.pre w (List.mem_cons_of_mem _ hw), hK, fun h' => jx_D_any hD, hSF, fun h' sz' q hsz' hq => ?_, B.returns, B.notSynchronized, jx_nnt hκ, Nat.le_refl _, Nat.le_refl _, Nat.le_refl _, Nat.le_refl _⟩
    rcases jx_A_any (h' := h) hq with h1 | h1
    · exact Or.inl h1
    · exact Or.inr (Nat.le_trans hsz' h1)
  have hl := lv_entry (as.map (jx_cv G)) (n := jx_mx κ) (by rw [jx_sl_len G as hk1]; exact hn)
  rw [lg_entry_eq]
  have hmem : ∀ (j : Nat) (v : jxV), ls[j]? = some (some v) → as[j]? = some v := by
    intro j v hj
    rw [← hls] at hj
    by_cases hja : j < as.length
    · rw [List.getElem?_append_left (by simpa using hja), List.getElem?_map] at hj
      cases ha : as[j]? with
      | none => rw [ha] at hj; cases hj
      | some w => rw [ha] at hj; cases hj; rfl
    · rw [List.getElem?_append_right (by simpa using hja)] at hj
      have := List.mem_of_getElem? hj
      rw [List.mem_replicate] at this
      cases this.2
  refine body (jx_V p l e _ s m _ below meth c G _ κ 0 0 _) (fun cut n pc ls st h hb => jx_blk_ok X (fun t ht => ht) (fun _ _ _ _ _ _ _ _ _ h9 => False.elim h9) cut n pc ls st h hb) s.heap [] _ ⟨?_, _, hl, fun j v hj => ?_⟩ (fun v hv => by cases hv) (fun j v hj => hok v (List.mem_of_getElem? (hmem j v hj))) hP va_S.rf
  · rw [← hls]
    simp
    omega
  · have := jx_args_mem G as 0 j v hk1 (hmem j v hj)
    rw [Nat.zero_add] at this
    exact ⟨this, hk1 v (List.mem_of_getElem? (hmem j v hj))⟩
