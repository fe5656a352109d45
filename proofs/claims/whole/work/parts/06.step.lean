/-! One instruction, then a block, then a method: from the pure machine to the contract jx_MW. -/
theorem jx_lc2 : ∀ n : Fin 2, Int64.ofNat (n : Nat) = (nI n.val).toInt64 := by decide +kernel
section JT
variable {p : Program} {l : Launch} {e : Env} {R : Room} {s : State} {m : MethodId} {args : Array Value} {below : List Frame} {meth : Method} {c : Code} {G : jxG} {A : Nat → Prop} {κ cs ss : Nat} {E : Int32 → jxH → Prop} {TH : Nat → jxH → Prop} {Qf : State → Prop}
set_option maxHeartbeats 4000000 in
set_option maxRecDepth 100000 in
theorem jx_step {go : Nat → jxL → List jxV → jxH → Prop} (X : jx_X p R s m args meth c G A κ cs ss) (hfin : ∀ t, MQ below (jx_Qc G κ A E) args s cs ss A t → Qf t) (hth : ∀ pc nx idx tg ls h x, jx_ent κ pc = some (.new idx, nx, tg) → jx_ex (jx_ow κ) idx = some x → TH x h → jx_V p l e R s m args below meth c G A κ cs ss Qf pc ls [] h) (hgo : ∀ pc ls st h, go pc ls st h → jx_V p l e R s m args below meth c G A κ cs ss Qf pc ls st h)
    {pc nx : Nat} {i : Instr} {tg : List Nat} {ls : jxL} {st : List jxV} {h : jxH} (hent : jx_ent κ pc = some (i, nx, tg)) (hs : jx_op κ go E TH i nx tg ls st h) : jx_V p l e R s m args below meth c G A κ cs ss Qf pc ls st h := by
  have X0 := X
  obtain ⟨hx, hb, hml, hown, hts, hK, hD, hSF, hAw, hret, hlocks, hκ, hR1, hR2, hR3, hR4⟩ := X
  obtain ⟨hentA, htg, hsw⟩ := jx_ent_ok hκ hent
  have hin := hts
  intro H locs la hl hst hls hP hS
  have hls0 : la.size = jx_mx κ := by
    obtain ⟨-, lv, h1, -⟩ := hl
    exact h1.1
  have K : ∀ {pc' : Nat} {ls' : jxL} {st' : List jxV} {h' : jxH} {H' : Heap} {locs' : List Loc} {la' : Array Slot}, go pc' ls' st' h' → jx_lo G la' (jx_mx κ) ls' → (∀ v ∈ st', jx_ok v) → (∀ (j : Nat) (v : jxV), ls'[j]? = some (some v) → jx_ok v) → va_P G.1 jx_cl (jx_ws G h') H' → va_S A s.heap H' locs' → W p l e R s m args below meth c H' locs' cs ss Qf (F0 m pc' la' (st'.map (jx_cv G))) := fun hk a1 a2 a3 a4 a5 => hgo _ _ _ _ hk _ _ _ a1 a2 a3 a4 a5
  unfold jx_op at hs
  by_cases hlen0 : 0 < jx_len i
  case neg =>
    cases i with
    | tableswitch d0 lo hi offs =>
      match tg, hs with
      | d :: ts, hs =>
        obtain ⟨x, st', rfl, hk⟩ := jx_i_inv hs
        obtain ⟨hdec, hlo, hhi, hd, hts9⟩ := hsw d0 lo hi offs rfl d ts rfl
        rcases jx_sw_inv ts lo.toNat x _ _ hk with ⟨j, t, h1, h2, h3⟩ | ⟨h1, h2⟩
        · have hjl := (List.getElem?_eq_some_iff.mp h1).1
          obtain ⟨o, ho1, ho2, hsz⟩ := hts9 j t h1
          have hxi : x.toInt = lo + j := by rw [h2, nI_toInt (by omega)]; omega
          exact lv_tableIn hx hb hdec (by omega) (by omega) (by rw [hxi, show (lo + (j : Int) - lo).toNat = j by omega]; exact ho1) ho2 (K h3 hl (jx_okt hst) hls hP hS)
        · refine lv_tableOut hx hb hdec ?_ hd (K h2 hl (jx_okt hst) hls hP hS)
          by_cases hc1 : x.toInt < lo
          · exact Or.inl hc1
          · by_cases hc2 : hi < x.toInt
            · exact Or.inr hc2
            · exfalso
              refine h1 (x.toInt - lo).toNat (by omega) ?_
              apply Int32.toInt_inj.mp
              rw [nI_toInt (by have := x.toInt_lt; omega)]
              omega
    | _ => first | exact False.elim hs | exact absurd (Nat.succ_pos _) hlen0
  obtain ⟨hdec, hnx⟩ := hentA hlen0
  subst hnx
  cases i with
  | iconst n =>
    obtain ⟨x, hk, e1, -⟩ := jx_int_inv hs
    exact lv_iconst (v := x) hx hb hdec e1 (K hk hl (jx_oki hst) hls hP hS)
  | bipush n =>
    obtain ⟨x, hk, e1⟩ := jx_byt_inv hs
    exact lv_bipush (v := x) hx hb hdec e1 (K hk hl (jx_oki hst) hls hP hS)
  | sipush n =>
    obtain ⟨x, hk, -, e1⟩ := jx_int_inv hs
    exact lv_sipush (v := x) hx hb hdec e1 (K hk hl (jx_oki hst) hls hP hS)
  | iload j =>
    obtain ⟨v, hv, hk⟩ := jx_lk_inv hs
    obtain ⟨x, st', e1, hk2⟩ := jx_i_inv hk
    cases e1
    exact lv_iload (x := x) hx hb hdec (jx_lo_at hl hv) (K hk2 hl (jx_oki hst) hls hP hS)
  | iload_n j =>
    obtain ⟨v, hv, hk⟩ := jx_lk_inv hs
    obtain ⟨x, st', e1, hk2⟩ := jx_i_inv hk
    cases e1
    exact lv_iload_n (x := x) (i := j.val) hx hb hdec rfl (jx_lo_at hl hv) (K hk2 hl (jx_oki hst) hls hP hS)
  | aload j =>
    obtain ⟨v, hv, hk⟩ := jx_lk_inv hs
    obtain ⟨a, b, st', e1, hk2⟩ := jx_r_inv hk
    cases e1
    exact lv_aload (x := G.2.2 a b) hx hb hdec (jx_lo_at hl hv) (K hk2 hl (jx_okc (hls _ _ hv) hst) hls hP hS)
  | aload_n j =>
    obtain ⟨v, hv, hk⟩ := jx_lk_inv hs
    obtain ⟨a, b, st', e1, hk2⟩ := jx_r_inv hk
    cases e1
    exact lv_aload_n (x := G.2.2 a b) (i := j.val) hx hb hdec rfl (jx_lo_at hl hv) (K hk2 hl (jx_okc (hls _ _ hv) hst) hls hP hS)
  | istore j =>
    obtain ⟨x, st', rfl, hk⟩ := jx_i_inv hs
    obtain ⟨hj, hk2⟩ := jx_sk_inv _ _ _ _ hk
    obtain ⟨hn, lv, h1, h2⟩ := hl
    refine lv_istore (x := x) hx hb hdec h1 (Nat.lt_of_lt_of_le hj hn) rfl (fun la' h' => ?_)
    exact K hk2 (jx_lo_put (v := .inl x) hn h2 trivial h') (jx_okt hst) (jx_lset hls trivial) hP hS
  | istore_n j =>
    obtain ⟨x, st', rfl, hk⟩ := jx_i_inv hs
    obtain ⟨hj, hk2⟩ := jx_sk_inv _ _ _ _ hk
    obtain ⟨hn, lv, h1, h2⟩ := hl
    refine lv_istore_n (x := x) (i := j.val) hx hb hdec rfl h1 (Nat.lt_of_lt_of_le hj hn) rfl (fun la' h' => ?_)
    exact K hk2 (jx_lo_put (v := .inl x) hn h2 trivial h') (jx_okt hst) (jx_lset hls trivial) hP hS
  | astore j =>
    obtain ⟨a, b, st', rfl, hk⟩ := jx_r_inv hs
    obtain ⟨hj, hk2⟩ := jx_sk_inv _ _ _ _ hk
    obtain ⟨hn, lv, h1, h2⟩ := hl
    refine lv_astore (x := G.2.2 a b) hx hb hdec h1 (Nat.lt_of_lt_of_le hj hn) rfl (fun la' h' => ?_)
    exact K hk2 (jx_lo_put (v := jR a b) hn h2 trivial h') (jx_okt hst) (jx_lset hls (jx_okh hst)) hP hS
  | astore_n j =>
    obtain ⟨a, b, st', rfl, hk⟩ := jx_r_inv hs
    obtain ⟨hj, hk2⟩ := jx_sk_inv _ _ _ _ hk
    obtain ⟨hn, lv, h1, h2⟩ := hl
    refine lv_astore_n (x := G.2.2 a b) (i := j.val) hx hb hdec rfl h1 (Nat.lt_of_lt_of_le hj hn) rfl (fun la' h' => ?_)
    exact K hk2 (jx_lo_put (v := jR a b) hn h2 trivial h') (jx_okt hst) (jx_lset hls (jx_okh hst)) hP hS
  | iinc j n =>
    obtain ⟨v, hv, hk⟩ := jx_lk_inv hs
    obtain ⟨x, st', e1, hk2⟩ := jx_i_inv hk
    cases e1
    obtain ⟨d, hk2, e2, -⟩ := jx_int_inv hk2
    obtain ⟨hj, hk3⟩ := jx_sk_inv _ _ _ _ hk2
    obtain ⟨hn, lv, h1, h2⟩ := hl
    obtain ⟨kk, hkk⟩ := List.getElem?_of_mem (h2 j _ hv).1
    refine lv_iinc (x := x) (v := x + d) hx hb hdec h1 hkk (by rw [e2]) (Nat.lt_of_lt_of_le hj hn) rfl (fun la' h' => ?_)
    exact K hk3 (jx_lo_put (v := .inl (x + d)) hn h2 trivial h') hst (jx_lset hls trivial) hP hS
  | iadd =>
    obtain ⟨y, st', rfl, hk⟩ := jx_i_inv hs
    obtain ⟨x, st'', rfl, hk2⟩ := jx_i_inv hk
    exact lv_iadd hx hb hdec (K hk2 hl (jx_oki (jx_okt (jx_okt hst))) hls hP hS)
  | isub =>
    obtain ⟨y, st', rfl, hk⟩ := jx_i_inv hs
    obtain ⟨x, st'', rfl, hk2⟩ := jx_i_inv hk
    exact lv_isub hx hb hdec (K hk2 hl (jx_oki (jx_okt (jx_okt hst))) hls hP hS)
  | imul =>
    obtain ⟨y, st', rfl, hk⟩ := jx_i_inv hs
    obtain ⟨x, st'', rfl, hk2⟩ := jx_i_inv hk
    exact lv_imul hx hb hdec (K hk2 hl (jx_oki (jx_okt (jx_okt hst))) hls hP hS)
  | iand =>
    obtain ⟨y, st', rfl, hk⟩ := jx_i_inv hs
    obtain ⟨x, st'', rfl, hk2⟩ := jx_i_inv hk
    exact lv_iand hx hb hdec (K hk2 hl (jx_oki (jx_okt (jx_okt hst))) hls hP hS)
  | ior =>
    obtain ⟨y, st', rfl, hk⟩ := jx_i_inv hs
    obtain ⟨x, st'', rfl, hk2⟩ := jx_i_inv hk
    exact lv_ior hx hb hdec (K hk2 hl (jx_oki (jx_okt (jx_okt hst))) hls hP hS)
  | ixor =>
    obtain ⟨y, st', rfl, hk⟩ := jx_i_inv hs
    obtain ⟨x, st'', rfl, hk2⟩ := jx_i_inv hk
    exact lv_ixor hx hb hdec (K hk2 hl (jx_oki (jx_okt (jx_okt hst))) hls hP hS)
  | ishl =>
    obtain ⟨y, st', rfl, hk⟩ := jx_i_inv hs
    obtain ⟨x, st'', rfl, hk2⟩ := jx_i_inv hk
    exact lv_ishl hx hb hdec (K hk2 hl (jx_oki (jx_okt (jx_okt hst))) hls hP hS)
  | ishr =>
    obtain ⟨y, st', rfl, hk⟩ := jx_i_inv hs
    obtain ⟨x, st'', rfl, hk2⟩ := jx_i_inv hk
    exact lv_ishr hx hb hdec (K hk2 hl (jx_oki (jx_okt (jx_okt hst))) hls hP hS)
  | idiv =>
    obtain ⟨y, st', rfl, hk⟩ := jx_i_inv hs
    obtain ⟨x, st'', rfl, hk2⟩ := jx_i_inv hk
    exact lv_idiv hx hb hdec hk2.1 (K hk2.2 hl (jx_oki (jx_okt (jx_okt hst))) hls hP hS)
  | irem =>
    obtain ⟨y, st', rfl, hk⟩ := jx_i_inv hs
    obtain ⟨x, st'', rfl, hk2⟩ := jx_i_inv hk
    exact lv_irem hx hb hdec hk2.1 (K hk2.2 hl (jx_oki (jx_okt (jx_okt hst))) hls hP hS)
  | dup =>
    obtain ⟨v, st', rfl, kv, hk⟩ := jx_1_inv hs
    exact lv_dup hx hb hdec (jx_cv_cat G kv) (K hk hl (jx_okc (jx_okh hst) hst) hls hP hS)
  | pop =>
    obtain ⟨v, st', rfl, kv, hk⟩ := jx_1_inv hs
    exact lv_pop hx hb hdec (jx_cv_cat G kv) (K hk hl (jx_okt hst) hls hP hS)
  | dup2 =>
    obtain ⟨v, st', rfl, kv, hk⟩ := jx_1_inv hs
    obtain ⟨w, st'', rfl, kw, hk2⟩ := jx_1_inv hk
    exact lv_dup2_11 hx hb hdec (jx_cv_cat G kv) (jx_cv_cat G kw) (K hk2 hl (jx_okc (jx_okh hst) (jx_okc (jx_okh (jx_okt hst)) hst)) hls hP hS)
  | dup_x1 =>
    obtain ⟨v, st', rfl, kv, hk⟩ := jx_1_inv hs
    obtain ⟨w, st'', rfl, kw, hk2⟩ := jx_1_inv hk
    exact lv_dup_x1 hx hb hdec (jx_cv_cat G kv) (jx_cv_cat G kw) (K hk2 hl (jx_okc (jx_okh hst) (jx_okc (jx_okh (jx_okt hst)) (jx_okc (jx_okh hst) (jx_okt (jx_okt hst))))) hls hP hS)
  | dup_x2 =>
    obtain ⟨v, st', rfl, kv, hk⟩ := jx_1_inv hs
    obtain ⟨w, st'', rfl, kw, hk2⟩ := jx_1_inv hk
    obtain ⟨z, st3, rfl, kz, hk3⟩ := jx_1_inv hk2
    exact lv_dup_x2 hx hb hdec (jx_cv_cat G kv) (jx_cv_cat G kw) (jx_cv_cat G kz) (K hk3 hl (jx_okc (jx_okh hst) (jx_okc (jx_okh (jx_okt hst)) (jx_okc (jx_okh (jx_okt (jx_okt hst))) (jx_okc (jx_okh hst) (jx_okt (jx_okt (jx_okt hst))))))) hls hP hS)
  | i2l =>
    obtain ⟨x, st', rfl, hk⟩ := jx_i_inv hs
    exact lv_i2l hx hb hdec rfl (K hk hl (jx_okc (v := jJ x) trivial (jx_okt hst)) hls hP hS)
  | lconst n =>
    exact lv_lconst (v := (nI n.val).toInt64) hx hb hdec (jx_lc2 n) (K hs hl (jx_okc (v := jJ (nI n.val)) trivial hst) hls hP hS)
  | lcmp =>
    obtain ⟨y, st1, rfl, hk⟩ := jx_j_inv hs
    obtain ⟨x, st', rfl, hk2⟩ := jx_j_inv hk
    have hst' := jx_okt (jx_okt hst)
    refine W.lcmp hx hb hdec ?_
    by_cases hxy : x = y
    · subst hxy
      have e0 : lg_cmp x.toInt64 x.toInt64 = nI 0 := by
        rw [nI_0]
        exact (lg_cmp_eq _ _).mpr rfl
      rw [e0]
      exact K (hk2.1 rfl) hl (jx_oki hst') hls hP hS
    · have hne : ¬ x.toInt64 = y.toInt64 := fun q => hxy (by have := congrArg Int64.toInt32 q; simpa using this)
      exact K (hk2.2 hxy _ (fun q => hne ((lg_cmp_eq _ _).mp q))) hl (jx_oki hst') hls hP hS
  | laload =>
    obtain ⟨x, st1, rfl, hk⟩ := jx_i_inv hs
    obtain ⟨k, b, st', rfl, hk2⟩ := jx_r_inv hk
    have hkb : b < jx_ct k := jx_okh (jx_okt hst)
    obtain ⟨n, har, j, ⟨hj, rfl⟩, hk3⟩ := jx_ae_inv hk2
    obtain ⟨q0, hq0⟩ := jx_find hkb (by simp [jx_cel, har])
    have hat := jx_at (G := G) (h := h) hq0
    have hlen := (jx_ar_ok har).1
    have hcf : jx_cf G k b (h k b) = .inl (G.2.1 4, n, .inr (.inl (fun j => (h k b j).toInt64))) := by simp [jx_cf, har, (jx_ar_ok har).2]
    rw [hcf] at hat
    have hc : (nI j).toNatClampNeg = j := nI_clamp (by omega)
    refine va_lald hx hb hK hP q0 4 hat (jx_ty_at rfl) (vp_in_nI hj hlen) hdec ?_
    rw [hc]
    exact K hk3 hl (jx_okc (v := jJ (h k b j)) trivial (jx_okt (jx_okt hst))) hls hP hS
  | lastore =>
    obtain ⟨v, st1, rfl, hk⟩ := jx_j_inv hs
    obtain ⟨x, st2, rfl, hk2⟩ := jx_i_inv hk
    obtain ⟨k, b, st', rfl, hk3⟩ := jx_r_inv hk2
    have hkb : b < jx_ct k := jx_okh (jx_okt (jx_okt hst))
    obtain ⟨n, har, j, ⟨hj, rfl⟩, hk4⟩ := jx_ae_inv hk3
    obtain ⟨q0, hq0⟩ := jx_find hkb (by simp [jx_cel, har])
    have hat := jx_at (G := G) (h := h) hq0
    have hlen := (jx_ar_ok har).1
    have hcf : ∀ f : Nat → Int32, jx_cf G k b f = .inl (G.2.1 4, n, .inr (.inl (fun j => (f j).toInt64))) := fun f => by simp [jx_cf, har, (jx_ar_ok har).2]
    rw [hcf] at hat
    have hc : (nI j).toNatClampNeg = j := nI_clamp (by omega)
    refine va_last hx hb hK hP (hD h) hS q0 4 hat (jx_ty_at rfl) (vp_in_nI hj hlen) hdec (fun H1 locs1 hP1 _ hS1 => ?_)
    have hup : vp_updL (fun j => (h k b j).toInt64) j v.toInt64 = fun q => (upd (h k b) j v q).toInt64 := by
      funext q
      unfold vp_updL upd
      split <;> rfl
    rw [hc, hup, ← hcf (upd (h k b) j v), jx_sets (hD h) hq0] at hP1
    exact K hk4 hl (jx_okt (jx_okt (jx_okt hst))) hls hP1 hS1
  | tableswitch d0 lo hi offs => exact absurd hlen0 (Nat.lt_irrefl 0)
  | goto o =>
    obtain ⟨t, rfl, hk⟩ := jx_t1_inv hs
    exact lv_goto hx hb hdec (htg o rfl t rfl) (K hk hl hst hls hP hS)
  | ifCond cd o =>
    obtain ⟨t, rfl, hk⟩ := jx_t1_inv hs
    obtain ⟨x, st', rfl, hk2⟩ := jx_i_inv hk
    have ht := htg o rfl t rfl
    have hst' := jx_okt hst
    cases cd with
    | eq => exact lv_if_eq hx hb hdec ht (fun q => K (hk2.1 q) hl hst' hls hP hS) (fun q => K (hk2.2 q) hl hst' hls hP hS)
    | ne => exact lv_if_ne hx hb hdec ht (fun q => K (hk2.2 q) hl hst' hls hP hS) (fun q => K (hk2.1 q) hl hst' hls hP hS)
    | lt => exact lv_if_lt hx hb hdec ht (fun q => K (hk2.1 q) hl hst' hls hP hS) (fun q => K (hk2.2 q) hl hst' hls hP hS)
    | ge => exact lv_if_ge hx hb hdec ht (fun q => K (hk2.1 q) hl hst' hls hP hS) (fun q => K (hk2.2 q) hl hst' hls hP hS)
    | gt => exact lv_if_gt hx hb hdec ht (fun q => K (hk2.1 q) hl hst' hls hP hS) (fun q => K (hk2.2 q) hl hst' hls hP hS)
    | le => exact lv_if_le hx hb hdec ht (fun q => K (hk2.1 q) hl hst' hls hP hS) (fun q => K (hk2.2 q) hl hst' hls hP hS)
  | if_icmp cd o =>
    obtain ⟨t, rfl, hk⟩ := jx_t1_inv hs
    obtain ⟨y, st', rfl, hk2⟩ := jx_i_inv hk
    obtain ⟨x, st'', rfl, hk3⟩ := jx_i_inv hk2
    have ht := htg o rfl t rfl
    have hst' := jx_okt (jx_okt hst)
    cases cd with
    | eq => exact lv_icmp_eq hx hb hdec ht (fun q => K (hk3.1 q) hl hst' hls hP hS) (fun q => K (hk3.2 q) hl hst' hls hP hS)
    | ne => exact lv_icmp_ne hx hb hdec ht (fun q => K (hk3.2 q) hl hst' hls hP hS) (fun q => K (hk3.1 q) hl hst' hls hP hS)
    | lt => exact lv_icmp_lt hx hb hdec ht (fun q => K (hk3.1 q) hl hst' hls hP hS) (fun q => K (hk3.2 q) hl hst' hls hP hS)
    | ge => exact lv_icmp_ge hx hb hdec ht (fun q => K (hk3.1 q) hl hst' hls hP hS) (fun q => K (hk3.2 q) hl hst' hls hP hS)
    | gt => exact lv_icmp_gt hx hb hdec ht (fun q => K (hk3.1 q) hl hst' hls hP hS) (fun q => K (hk3.2 q) hl hst' hls hP hS)
    | le => exact lv_icmp_le hx hb hdec ht (fun q => K (hk3.1 q) hl hst' hls hP hS) (fun q => K (hk3.2 q) hl hst' hls hP hS)
  | getfield idx =>
    obtain ⟨k, b, st', rfl, hk⟩ := jx_r_inv hs
    obtain ⟨ci, fs, j, d, hfl, hfd, hj, hk2⟩ := jx_fe_inv hk
    have hkb : b < jx_ct k := jx_okh hst
    obtain ⟨q0, hq0⟩ := jx_find hkb (by simp [jx_cel, hfl])
    have hat := jx_at (G := G) (h := h) hq0
    have hcf : jx_cf G k b (h k b) = .inr (ci, fs.mapIdx (jx_fv G b (h k b))) := by simp [jx_cf, hfl]
    rw [hcf] at hat
    obtain ⟨C, T, N, hcl, hjN, hC, hw, hu⟩ := jx_fd_ok hfd
    have hgo2 : W p l e R s m args below meth c H locs cs ss Qf (F0 m (pc + 3) la (jx_fv G b (h k b) j d :: st'.map (jx_cv G))) := by
      match d, hj, hk2 with
      | none, hj, hk2 => exact K hk2 hl (jx_oki (jx_okt hst)) hls hP hS
      | some (k', some c'), hj, hk2 => exact K hk2 hl (jx_okc (jx_fl_ok hfl hj hkb) (jx_okt hst)) hls hP hS
      | some (k', none), hj, hk2 => exact K hk2 hl (jx_okc (jx_fl_ok hfl hj hkb) (jx_okt hst)) hls hP hS
    exact va_get (D := G.1) (ci := ci) (C := C) (T := T) (N := N) hx hb hin hu hown hK hP q0 hat hcl j hjN (hin _ hw) (fun x h9 => by rw [hC] at h9; exact h9) (by simp [hj]) hdec hgo2
  | putfield idx =>
    obtain ⟨x, st1, rfl, hk⟩ := jx_i_inv hs
    obtain ⟨k, b, st', rfl, hk2⟩ := jx_r_inv hk
    obtain ⟨ci, fs, j, d, hfl, hfd, hj, hk3⟩ := jx_fe_inv hk2
    match d, hj, hk3 with
    | none, hj, hk3 =>
      have hkb : b < jx_ct k := jx_okh (jx_okt hst)
      obtain ⟨q0, hq0⟩ := jx_find hkb (by simp [jx_cel, hfl])
      have hat := jx_at (G := G) (h := h) hq0
      have hcf : ∀ f, jx_cf G k b f = .inr (ci, fs.mapIdx (jx_fv G b f)) := fun f => by simp [jx_cf, hfl]
      rw [hcf] at hat
      obtain ⟨C, T, N, hcl, hjN, hC, hw, hu⟩ := jx_fd_ok hfd
      obtain ⟨hfin, hpar⟩ := jx_fl_int hfl hj hcl
      obtain ⟨hty, hnm⟩ := jx_cl_ok hcl
      have hjl : j < fs.length := (List.getElem?_eq_some_iff.mp hj).1
      refine va_put (D := G.1) (ci := ci) (v := .int x) (ty := .int) (C := C) (T := T) (N := N) hx hb hin hu _ hty hnm hown hK hP (hD h) hS q0 hat hcl j hjN (hin _ hw) (fun x h9 => by rw [hC] at h9; exact h9) hfin hpar rfl rfl (by simpa using hjl) hdec (fun H1 locs1 hP1 _ hS1 => ?_)
      have hset : (fs.mapIdx (jx_fv G b (h k b))).set j (.int x) = fs.mapIdx (jx_fv G b (upd (h k b) j x)) := by
        apply List.ext_getElem?
        intro n
        by_cases hn : n = j
        · subst hn
          rw [List.getElem?_set_self (by simpa using hjl)]
          simp [hj, jx_fv, upd]
        · rw [List.getElem?_set_ne (Ne.symm hn)]
          simp only [List.getElem?_mapIdx]
          cases hfn : fs[n]? with
          | none => rfl
          | some d2 =>
            cases d2 with
            | none => simp [jx_fv, upd, hn]
            | some q => simp [jx_fv]
      rw [hset, ← hcf, jx_sets (hD h) hq0] at hP1
      exact K hk3 hl (jx_okt (jx_okt hst)) hls hP1 hS1
    | some q, hj, hk3 => exact False.elim hk3
  | getstatic idx =>
    cases hsd : jx_sd (jx_ow κ) idx with
    | none => simp only [hsd] at hs
    | some k =>
      simp only [hsd] at hs
      obtain ⟨q, hq, hw, hct⟩ := jx_sd_ok hsd
      exact va_gets (v := .ref (G.2.2 k 0)) hx hb (hSF k q hq).1 hS hown (hin _ hw) (fun _ h9 => h9) hdec (K hs hl (jx_okc (v := jR k 0) hct hst) hls hP hS)
  | iaload =>
    obtain ⟨x, st1, rfl, hk⟩ := jx_i_inv hs
    obtain ⟨k, b, st', rfl, hk2⟩ := jx_r_inv hk
    have hkb : b < jx_ct k := jx_okh (jx_okt hst)
    cases htv : jx_tv k with
    | some q =>
      simp only [htv] at hk2
      obtain ⟨j, ⟨hj, rfl⟩, hk3⟩ := hk2
      obtain ⟨hb0, hlen⟩ := jx_tv_ok htv hkb
      subst hb0
      have hc : (nI j).toNatClampNeg = j := nI_clamp (by omega)
      exact va_ti (v := .int (nI (q.2.2.getD j 0))) hx hb (hSF k q htv).2 hS (vp_in_nI hj (by omega)) (by rw [hc]) hdec (K hk3 hl (jx_oki (jx_okt (jx_okt hst))) hls hP hS)
    | none =>
      simp only [htv] at hk2
      obtain ⟨n, har, j, ⟨hj, rfl⟩, hk4⟩ := jx_ae_inv hk2
      obtain ⟨q0, hq0⟩ := jx_find hkb (by simp [jx_cel, har])
      have hat := jx_at (G := G) (h := h) hq0
      have hlen := (jx_ar_ok har).1
      have hcf : jx_cf G k b (h k b) = .inl (G.2.1 0, n, .inl (h k b)) := by simp [jx_cf, har, (jx_ar_ok har).2]; rfl
      rw [hcf] at hat
      have hc : (nI j).toNatClampNeg = j := nI_clamp (by omega)
      refine va_iald hx hb hK hP q0 0 hat (jx_ty_at rfl) (vp_in_nI hj hlen) hdec ?_
      rw [hc]
      exact K hk4 hl (jx_oki (jx_okt (jx_okt hst))) hls hP hS
  | baload =>
    obtain ⟨x, st1, rfl, hk⟩ := jx_i_inv hs
    obtain ⟨k, b, st', rfl, hk2⟩ := jx_r_inv hk
    have hkb : b < jx_ct k := jx_okh (jx_okt hst)
    obtain ⟨n, har, j, ⟨hj, rfl⟩, hk3⟩ := jx_ae_inv hk2
    obtain ⟨q0, hq0⟩ := jx_find hkb (by simp [jx_cel, har])
    have hat := jx_at (G := G) (h := h) hq0
    have hlen := (jx_ar_ok har).1
    have hcf : jx_cf G k b (h k b) = .inl (G.2.1 1, n, .inl (h k b)) := by simp [jx_cf, har, (jx_ar_ok har).2]; rfl
    rw [hcf] at hat
    have hc : (nI j).toNatClampNeg = j := nI_clamp (by omega)
    refine va_zald hx hb hK hP q0 1 hat (jx_ty_at rfl) (vp_in_nI hj hlen) hdec ?_
    rw [hc]
    exact K hk3 hl (jx_oki (jx_okt (jx_okt hst))) hls hP hS
  | iastore =>
    obtain ⟨v, st1, rfl, hk⟩ := jx_i_inv hs
    obtain ⟨x, st2, rfl, hk2⟩ := jx_i_inv hk
    obtain ⟨k, b, st', rfl, hk3⟩ := jx_r_inv hk2
    have hkb : b < jx_ct k := jx_okh (jx_okt (jx_okt hst))
    obtain ⟨n, har, j, ⟨hj, rfl⟩, hk4⟩ := jx_ae_inv hk3
    obtain ⟨q0, hq0⟩ := jx_find hkb (by simp [jx_cel, har])
    have hat := jx_at (G := G) (h := h) hq0
    have hlen := (jx_ar_ok har).1
    have hcf : ∀ f, jx_cf G k b f = .inl (G.2.1 0, n, .inl f) := fun f => by simp [jx_cf, har, (jx_ar_ok har).2]; rfl
    rw [hcf] at hat
    have hc : (nI j).toNatClampNeg = j := nI_clamp (by omega)
    refine va_iast hx hb hK hP (hD h) hS q0 0 hat (jx_ty_at rfl) (vp_in_nI hj hlen) hdec (fun H1 locs1 hP1 _ hS1 => ?_)
    rw [hc, ← hcf, jx_sets (hD h) hq0] at hP1
    exact K hk4 hl (jx_okt (jx_okt (jx_okt hst))) hls hP1 hS1
  | bastore =>
    obtain ⟨v, st1, rfl, hk⟩ := jx_i_inv hs
    obtain ⟨x, st2, rfl, hk2⟩ := jx_i_inv hk
    obtain ⟨k, b, st', rfl, hk3⟩ := jx_r_inv hk2
    have hkb : b < jx_ct k := jx_okh (jx_okt (jx_okt hst))
    obtain ⟨n, har, j, ⟨hj, rfl, hv⟩, hk4⟩ := jx_ae_inv hk3
    obtain ⟨q0, hq0⟩ := jx_find hkb (by simp [jx_cel, har])
    have hat := jx_at (G := G) (h := h) hq0
    have hlen := (jx_ar_ok har).1
    have hcf : ∀ f, jx_cf G k b f = .inl (G.2.1 1, n, .inl f) := fun f => by simp [jx_cf, har, (jx_ar_ok har).2]; rfl
    rw [hcf] at hat
    have hc : (nI j).toNatClampNeg = j := nI_clamp (by omega)
    have hnv : vp_nar .boolean v = v := by rcases hv with rfl | rfl <;> decide +kernel
    refine va_zast hx hb hK hP (hD h) hS q0 1 hat (jx_ty_at rfl) (vp_in_nI hj hlen) hdec (fun H1 locs1 hP1 _ hS1 => ?_)
    rw [hc, hnv, ← hcf, jx_sets (hD h) hq0] at hP1
    exact K hk4 hl (jx_okt (jx_okt (jx_okt hst))) hls hP1 hS1
  | aaload =>
    obtain ⟨x, st1, rfl, hk⟩ := jx_i_inv hs
    obtain ⟨k, b, st', rfl, hk2⟩ := jx_r_inv hk
    have hkb : b < jx_ct k := jx_okh (jx_okt hst)
    cases hra : jx_ra k with
    | none => simp only [hra] at hk2
    | some q =>
      obtain ⟨t, n, k'⟩ := q
      simp only [hra] at hk2
      obtain ⟨j, ⟨hj, rfl⟩, hk3⟩ := hk2
      obtain ⟨htv, hfl0, har0, hlen, hct, ty, hty, href⟩ := jx_ra_ok hra
      obtain ⟨q0, hq0⟩ := jx_find hkb (by simp [jx_cel, hra])
      have hat := jx_at (G := G) (h := h) hq0
      have hcf : jx_cf G k b (h k b) = .inl (G.2.1 t, n, .inr (.inr (.inr (.inr (fun j => some (G.2.2 k' j)))))) := by simp [jx_cf, hra, hfl0, har0]
      rw [hcf] at hat
      have hc : (nI j).toNatClampNeg = j := nI_clamp (by omega)
      have hgo2 : W p l e R s m args below meth c H locs cs ss Qf (F0 m (pc + 1) la (va_rf (some (G.2.2 k' (nI j).toNatClampNeg)) :: st'.map (jx_cv G))) := by
        rw [hc]
        exact K hk3 hl (jx_okc (v := jR k' j) (Nat.lt_of_lt_of_le hj hct) (jx_okt (jx_okt hst))) hls hP hS
      have harr := (hK.2 t _ (jx_ty_at hty)).1 n (fun j => va_rf (some (G.2.2 k' j)))
      exact jx_aald hx hb hat hP harr href (vp_in_nI hj hlen) hdec hgo2
  | ireturn =>
    obtain ⟨x, st1, rfl, hk⟩ := jx_i_inv hs
    obtain ⟨rfl, hk2⟩ := jx_e_inv hk
    have hend : ∀ (hE : E x h) (hrv : jx_rv κ x = some (.int x)), ∀ t : State, t.heap = H → s.WarmedH t.vm → jx_Qc G κ A E args s (.returned (some (.int x))) t := by
      intro hE hrv t ht hW
      refine ⟨⟨x, h, by rw [hrv], hE, by rw [ht]; exact hP, va_K.moved hW.alike hK, (hD h).weaken (fun _ _ _ _ => trivial), ?_⟩, hS.F ht⟩
      rw [ht]
      exact jx_SF_narrow (jx_SF_moved hW.alike (jx_SF_kept hSF hS.2.1)) (fun q hq => hAw h H.size q hS.1 hq)
    match hrt : jx_rt κ, hk2 with
    | some .int, hk2 => exact jx_Wmono hfin (W.iret hx hb (by rw [hret, hrt]) (hend hk2 (by simp [jx_rv, hrt])) hS.2.2 hdec)
    | some .boolean, hk2 => exact jx_Wmono hfin (W.zret (ty := .boolean) hx hb (by rw [hret, hrt]) (by rcases hk2.1 with rfl | rfl <;> decide +kernel) (hend hk2.2 (by simp [jx_rv, hrt])) hS.2.2 hdec)
  | new idx =>
    obtain ⟨rfl, hk⟩ := jx_e_inv hs
    cases hex : jx_ex (jx_ow κ) idx with
    | none => simp only [hex] at hk
    | some x =>
      simp only [hex] at hk
      exact hth _ _ _ _ ls h x hent hex hk H locs la hl hst hls hP hS
  | return_ =>
    obtain ⟨rfl, hk⟩ := jx_e_inv hs
    match hrt : jx_rt κ, hk with
    | none, hk =>
      refine jx_Wmono hfin (W.vret hx hb (by rw [hret, hrt]) (fun t ht hW => ?_) hS.2.2 hdec)
      refine ⟨⟨nI 0, h, by simp [jx_rv, hrt], hk, by rw [ht]; exact hP, va_K.moved hW.alike hK, (hD h).weaken (fun _ _ _ _ => trivial), ?_⟩, hS.F ht⟩
      rw [ht]
      exact jx_SF_narrow (jx_SF_moved hW.alike (jx_SF_kept hSF hS.2.1)) (fun q hq => hAw h H.size q hS.1 hq)
  | invokevirtual idx =>
    cases hmd : jx_md (jx_ow κ) idx with
    | none => simp only [hmd] at hs
    | some κ' =>
      simp only [hmd] at hs
      obtain ⟨as, rest, hlen, rfl, hk1, hk⟩ := jx_pk_inv _ _ _ _ hs
      rw [List.append_nil] at hk
      match as, hlen, hst, hk1, hk with
      | .inr (.inl (k, b)) :: as', hlen, hst, hk1, hk =>
        cases hfl : jx_fl k with
        | none => simp only [hfl] at hk
        | some q =>
          obtain ⟨ci, fs⟩ := q
          simp only [hfl] at hk
          obtain ⟨hcd, hk2⟩ := jx_cond hk
          simp only [Bool.and_eq_true, beq_iff_eq, Nat.ble_eq, Nat.blt_eq] at hcd
          obtain ⟨⟨⟨⟨hci, his⟩, hrl⟩, hdp⟩, hlc⟩ := hcd
          have hci := Nat.eq_of_beq_eq_true hci
          subst hci
          have hoka : ∀ v ∈ jR k b :: as', jx_ok v := fun v hv => hst v (List.mem_append_left _ (List.mem_reverse.mpr hv))
          have hokr : ∀ v ∈ rest, jx_ok v := fun v hv => hst v (List.mem_append_right _ hv)
          match hrt : jx_rt κ', hk2 with
          | none, hk2 =>
            refine jx_callV X0 hP hS hls0 hoka hk1 hmd (by simpa using hlen) hfl his hrl hdp hlc hk2 hdec (fun r h' H1 locs1 hE hP1 hS1 => ?_)
            rw [show jx_rv κ' r = none by simp [jx_rv, hrt]]
            exact K hE hl hokr hls hP1 hS1
          | some ty, hk2 =>
            refine jx_callV X0 hP hS hls0 hoka hk1 hmd (by simpa using hlen) hfl his hrl hdp hlc hk2 hdec (fun r h' H1 locs1 hE hP1 hS1 => ?_)
            rw [show jx_rv κ' r = some (.int r) by simp [jx_rv, hrt]]
            exact K hE hl (jx_oki hokr) hls hP1 hS1
  | invokestatic idx =>
    cases hmd : jx_md (jx_ow κ) idx with
    | some κ' =>
      simp only [hmd] at hs
      obtain ⟨as, rest, hlen, rfl, hk1, hk⟩ := jx_pk_inv _ _ _ _ hs
      rw [List.append_nil] at hk
      obtain ⟨hcd, hk2⟩ := jx_cond hk
      simp only [Bool.and_eq_true, Nat.ble_eq, Nat.blt_eq] at hcd
      obtain ⟨⟨⟨his, hrl⟩, hdp⟩, hlc⟩ := hcd
      have hoka : ∀ v ∈ as, jx_ok v := fun v hv => hst v (List.mem_append_left _ (List.mem_reverse.mpr hv))
      have hokr : ∀ v ∈ rest, jx_ok v := fun v hv => hst v (List.mem_append_right _ hv)
      match hrt : jx_rt κ', hk2 with
      | none, hk2 =>
        refine jx_callS X0 hP hS hls0 hoka hk1 hmd hlen his hrl hdp hlc hk2 hdec (fun r h' H1 locs1 hE hP1 hS1 => ?_)
        rw [show jx_rv κ' r = none by simp [jx_rv, hrt]]
        exact K hE hl hokr hls hP1 hS1
      | some ty, hk2 =>
        refine jx_callS X0 hP hS hls0 hoka hk1 hmd hlen his hrl hdp hlc hk2 hdec (fun r h' H1 locs1 hE hP1 hS1 => ?_)
        rw [show jx_rv κ' r = some (.int r) by simp [jx_rv, hrt]]
        exact K hE hl (jx_oki hokr) hls hP1 hS1
    | none =>
      simp only [hmd] at hs
      match hsp : jx_sp (jx_ow κ) idx, hs with
      | some 0, hs =>
        obtain ⟨y, st1, rfl, hk3⟩ := jx_i_inv hs
        obtain ⟨x, st', rfl, hk4⟩ := jx_i_inv hk3
        obtain ⟨hcd, hk5⟩ := jx_cond hk4
        simp only [Bool.and_eq_true, Nat.ble_eq, Nat.blt_eq] at hcd
        obtain ⟨w1, w2, w3, w4⟩ := jx_sp_0 hsp
        refine va_mmin hx hb (by rw [hml, hls0]) hown (hin _ w1) (hin _ w2) (hin _ w3) (hin _ w4) (by omega) (by rw [jx_cats]; omega) hR3 hR4 hdec ?_
        exact K hk5 hl (jx_oki (jx_okt (jx_okt hst))) hls hP hS
      | some 1, hs =>
        obtain ⟨n, st1, rfl, hk6⟩ := jx_i_inv hs
        obtain ⟨dp, st2, rfl, hk7⟩ := jx_i_inv hk6
        obtain ⟨k1, i1, st3, rfl, hk8⟩ := jx_r_inv hk7
        obtain ⟨sp, st4, rfl, hk9⟩ := jx_i_inv hk8
        obtain ⟨k0, i0, st', rfl, hk10⟩ := jx_r_inv hk9
        obtain ⟨n0, har0, hk11⟩ := jx_ae_inv hk10
        obtain ⟨n1, har1, hk12⟩ := jx_ae_inv hk11
        obtain ⟨hcd, hk13⟩ := jx_cond hk12
        simp only [Bool.and_eq_true, Nat.ble_eq, Nat.blt_eq] at hcd
        obtain ⟨a, b, d, ⟨rfl, rfl, rfl, ha, hb2⟩, hk14⟩ := hk13
        obtain ⟨w1, w2, w3, w4⟩ := jx_sp_1 hsp
        have l0 := (jx_ar_ok har0).1
        have l1 := (jx_ar_ok har1).1
        have hk1 : i1 < jx_ct k1 := jx_okh (jx_okt (jx_okt hst))
        have hk0 : i0 < jx_ct k0 := jx_okh (jx_okt (jx_okt (jx_okt (jx_okt hst))))
        obtain ⟨q0, hq0⟩ := jx_find hk0 (by simp [jx_cel, har0])
        obtain ⟨q1, hq1⟩ := jx_find hk1 (by simp [jx_cel, har1])
        have hat0 := jx_at (G := G) (h := h) hq0
        have hat1 := jx_at (G := G) (h := h) hq1
        have hcf0 : jx_cf G k0 i0 (h k0 i0) = .inl (G.2.1 0, n0, .inl (h k0 i0)) := by simp [jx_cf, har0, (jx_ar_ok har0).2]; rfl
        have hcf1 : ∀ f, jx_cf G k1 i1 f = .inl (G.2.1 0, n1, .inl f) := fun f => by simp [jx_cf, har1, (jx_ar_ok har1).2]; rfl
        rw [hcf0] at hat0
        rw [hcf1] at hat1
        have ca : (nI a).toNatClampNeg = a := nI_clamp (by omega)
        have cb : (nI b).toNatClampNeg = b := nI_clamp (by omega)
        have cd : (nI d).toNatClampNeg = d := nI_clamp (by omega)
        refine va_copyi hx hb (by rw [hml, hls0]) hown (hin _ w1) (hin _ w2) (hin _ w3) (hin _ w4) hK hP (hD h) hS q0 q1 0 0 hat0 hat1 (jx_ty_at rfl) (jx_ty_at rfl) rfl (nI_pos (by omega)) (nI_pos (by omega)) (nI_pos (by omega)) (by rw [ca, cd]; exact ha) (by rw [cb, cd]; exact hb2) (fun i hi => rfl) (by omega) (by rw [jx_cats]; have := jx_nfw; omega) hdec (fun H1 locs1 hP1 _ hS1 => ?_)
        rw [ca, cb, cd, ← hcf1, jx_sets (hD h) hq1] at hP1
        exact K hk14 hl (jx_okt (jx_okt (jx_okt (jx_okt (jx_okt hst))))) hls hP1 hS1
  | _ => exact False.elim hs
end JT
