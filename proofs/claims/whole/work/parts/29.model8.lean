/-! The reference: print. -/
theorem dta_lt {dc : Nat → Nat} {len n pg k : Nat} (hl : len ≤ 80) (hdc : ∀ i, i < 80 → dc i < 256) (hn : n ≤ 4) (hpg : pg ≤ n + 1) : dta dc len n pg k < 16 := by
  unfold dta
  split
  · omega
  split
  · omega
  split
  · omega
  split
  · omega
  exact pv_lt hl hdc
theorem bD_4 (D : Nat → Nat → Bool) (bl s a b : Nat) : (if a = bX bl + 1 ∧ b = bY bl + 1 then s.testBit 3 else if a = bX bl ∧ b = bY bl + 1 then s.testBit 2 else if a = bX bl + 1 ∧ b = bY bl then s.testBit 1 else if a = bX bl ∧ b = bY bl then s.testBit 0 else D a b) = bD D bl s a b := by
  unfold bD
  by_cases c3 : a = bX bl + 1 ∧ b = bY bl + 1
  · rw [if_pos c3, if_pos (by omega), show a - bX bl + 2 * (b - bY bl) = 3 by omega]
  rw [if_neg c3]
  by_cases c2 : a = bX bl ∧ b = bY bl + 1
  · rw [if_pos c2, if_pos (by omega), show a - bX bl + 2 * (b - bY bl) = 2 by omega]
  rw [if_neg c2]
  by_cases c1 : a = bX bl + 1 ∧ b = bY bl
  · rw [if_pos c1, if_pos (by omega), show a - bX bl + 2 * (b - bY bl) = 1 by omega]
  rw [if_neg c1]
  by_cases c0 : a = bX bl ∧ b = bY bl
  · rw [if_pos c0, if_pos (by omega), show a - bX bl + 2 * (b - bY bl) = 0 by omega]
  rw [if_neg c0, if_neg (by omega)]
theorem tb_eq {s k : Nat} : (s / 2 ^ k % 2 = 1 → s.testBit k = true) ∧ (¬ s / 2 ^ k % 2 = 1 → s.testBit k = false) := by
  rw [tb_div]
  exact ⟨fun q => decide_eq_true q, fun q => decide_eq_false q⟩
set_option maxHeartbeats 1000000 in
theorem S_M_printPage {pg n len : Nat} {dc : Nat → Nat} {D0 : Nat → Nat → Bool} {h : jxH} (hD0 : PA (h 22 0) pg D0) (hw : AR (h 23 0) 15 16 gf_pw) (hl : h 20 0 1 = nI len) (hl9 : len ≤ 80) (hd : AR (h 21 0) 80 256 dc) (hn : n ≤ 4) (hpg : pg ≤ n + 1) : jx_MW 100 [jR 20 0, jI (nI pg), jI (nI n)] h (fun _ h' => ∃ a f, h' = jx_st (jx_st h 26 0 a) 22 0 f ∧ PF (h 22 0) f pg (pgD (dta dc len n pg) 4)) := by
  refine jx_MW_by [some (jR 20 0), some (jI (nI pg)), some (jI (nI n)), none, none, none, none] (by decide) rfl (Nat.le_of_ble_eq_true rfl) (fun V rule => ?_)
  have h16 : ∀ k, dta dc len n pg k < 16 := fun k => dta_lt hl9 (fun i hi => hd.lt hi) hn hpg
  -- the rows
  have rows := jl_up (P := fun r => ∀ (o4 o5 o6 : Option jxV) (a f : Nat → Int32), PF (h 22 0) f pg (pgD (dta dc len n pg) r) → V 99 [some (jR 20 0), some (jI (nI pg)), some (jI (nI n)), some (jI (nI r)), o4, o5, o6] [] (jx_st (jx_st h 26 0 a) 22 0 f)) 4
    (by
      intro o4 o5 o6 a f hf
      refine rule (fun _ => false) 20 99 _ _ _ ?_
      refine pk_le 4 4 (fun _ => ?_) (fun q => absurd q (Nat.lt_irrefl _))
      exact Exists.intro a (Exists.intro f (And.intro rfl hf)))
    (fun r hr ih => by
      intro o4 o5 o6 a f hf
      have draw := fun (a : Nat → Int32) (ha : AR a 15 16 (wd9 (dta dc len n pg) r)) => jl_up (P := fun i => ∀ (o5 o6 : Option jxV) (f : Nat → Int32), PF (h 22 0) f pg (dr (pgD (dta dc len n pg) r) (wd9 (dta dc len n pg) r) r i) → V 149 [some (jR 20 0), some (jI (nI pg)), some (jI (nI n)), some (jI (nI r)), some (jI (nI i)), o5, o6] [] (jx_st (jx_st h 26 0 a) 22 0 f)) 15
        (by
          intro o5 o6 f hf
          refine rule (Nat.beq 99) 20 149 _ _ _ ?_
          refine pk_le 15 15 (fun _ => ?_) (fun q => absurd q (Nat.lt_irrefl _))
          exact jv_to (V := V) (ih (some (jI (nI 15))) o5 o6 a f hf) (by rw [nI_add]) rfl rfl)
        (fun i hi ih2 => by
          intro o5 o6 f hf
          obtain ⟨s, hs⟩ : ∃ s, s = wd9 (dta dc len n pg) r i := ⟨_, rfl⟩
          have hsa : a i = nI s := by rw [hs]; exact ha.at hi
          have hs16 : s < 16 := by rw [hs]; exact ha.lt hi
          obtain ⟨X, hX⟩ : ∃ X, X = bX (4 * i + r) := ⟨_, rfl⟩
          obtain ⟨Y, hY⟩ : ∃ Y, Y = bY (4 * i + r) := ⟨_, rfl⟩
          have hX9 : X ≤ 15 := by rw [hX]; unfold bX; omega
          have hY9 : Y ≤ 15 := by rw [hY]; unfold bY; omega
          have hst : ∀ (f : Nat → Int32) (j : Nat) (v : Int32), jx_st (jx_st (jx_st h 26 0 a) 22 0 f) 22 0 (upd (jx_st (jx_st h 26 0 a) 22 0 f 22 0) j v) = jx_st (jx_st h 26 0 a) 22 0 (upd f j v) := fun f j v => by rw [jx_st_same, jx_st_st]
          have d3 : ∀ f, PF (h 22 0) f pg (fun a b => if a = X ∧ b = Y + 1 then s.testBit 2 else if a = X + 1 ∧ b = Y then s.testBit 1 else if a = X ∧ b = Y then s.testBit 0 else dr (pgD (dta dc len n pg) r) (wd9 (dta dc len n pg) r) r i a b) → V 278 [some (jR 20 0), some (jI (nI pg)), some (jI (nI n)), some (jI (nI r)), some (jI (nI i)), some (jI (nI (4 * i + r))), some (jI (nI (324 * pg + 18 * Y + X)))] [] (jx_st (jx_st h 26 0 a) 22 0 f) := by
            intro f hf
            refine rule (Nat.beq 149) 40 278 _ _ _ ?_
            refine Exists.intro i (And.intro (And.intro hi rfl) ?_)
            have nxt : ∀ c : Bool, s.testBit 3 = c → V 149 [some (jR 20 0), some (jI (nI pg)), some (jI (nI n)), some (jI (nI r)), some (jI (nI i + nI 1)), some (jI (nI (4 * i + r))), some (jI (nI (324 * pg + 18 * Y + X)))] [] (jx_st (jx_st h 26 0 a) 22 0 (upd f (324 * pg + 18 * (Y + 1) + (X + 1)) (nI c.toNat))) := fun c hc => jv_to (V := V) (ih2 _ _ _ ((hf.put (x := X + 1) (y := Y + 1) (by omega) (by omega) c).congr (fun a b _ _ => by
              rw [← hc, hX, hY, hs]
              exact bD_4 _ _ _ a b))) (by rw [nI_add]) rfl rfl
            have ei : nI (324 * pg + 18 * Y + X) + nI 19 = nI (324 * pg + 18 * (Y + 1) + (X + 1)) := by rw [nI_add, show 324 * pg + 18 * Y + X + 19 = 324 * pg + 18 * (Y + 1) + (X + 1) by omega]
            refine pk_eq (s / 2 ^ 3 % 2) 1 (fun q => ?_) (fun q => ?_) (by rw [show jx_st (jx_st h 26 0 a) 22 0 f 26 0 i = a i from rfl, hsa, jn_shr (by decide) (by omega), jn_and, Nat.and_one_is_mod]) rfl
            · refine Exists.intro (324 * pg + 18 * (Y + 1) + (X + 1)) (And.intro (And.intro (by omega) (And.intro ei (Or.inr rfl))) ?_)
              rw [hst]
              exact nxt true (tb_eq.1 q)
            · refine Exists.intro (324 * pg + 18 * (Y + 1) + (X + 1)) (And.intro (And.intro (by omega) (And.intro ei (Or.inl rfl))) ?_)
              rw [hst]
              exact nxt false (tb_eq.2 q)
          have d2 : ∀ f, PF (h 22 0) f pg (fun a b => if a = X + 1 ∧ b = Y then s.testBit 1 else if a = X ∧ b = Y then s.testBit 0 else dr (pgD (dta dc len n pg) r) (wd9 (dta dc len n pg) r) r i a b) → V 248 [some (jR 20 0), some (jI (nI pg)), some (jI (nI n)), some (jI (nI r)), some (jI (nI i)), some (jI (nI (4 * i + r))), some (jI (nI (324 * pg + 18 * Y + X)))] [] (jx_st (jx_st h 26 0 a) 22 0 f) := by
            intro f hf
            refine rule (Nat.beq 278) 40 248 _ _ _ ?_
            refine Exists.intro i (And.intro (And.intro hi rfl) ?_)
            have ei : nI (324 * pg + 18 * Y + X) + nI 18 = nI (324 * pg + 18 * (Y + 1) + X) := by rw [nI_add, show 324 * pg + 18 * Y + X + 18 = 324 * pg + 18 * (Y + 1) + X by omega]
            refine pk_eq (s / 2 ^ 2 % 2) 1 (fun q => ?_) (fun q => ?_) (by rw [show jx_st (jx_st h 26 0 a) 22 0 f 26 0 i = a i from rfl, hsa, jn_shr (by decide) (by omega), jn_and, Nat.and_one_is_mod]) rfl
            · refine Exists.intro (324 * pg + 18 * (Y + 1) + X) (And.intro (And.intro (by omega) (And.intro ei (Or.inr rfl))) ?_)
              rw [hst]
              refine d3 _ ((hf.put (x := X) (y := Y + 1) (by omega) (by omega) true).congr (fun a b _ _ => ?_))
              rw [tb_eq.1 q]
            · refine Exists.intro (324 * pg + 18 * (Y + 1) + X) (And.intro (And.intro (by omega) (And.intro ei (Or.inl rfl))) ?_)
              rw [hst]
              refine d3 _ ((hf.put (x := X) (y := Y + 1) (by omega) (by omega) false).congr (fun a b _ _ => ?_))
              rw [tb_eq.2 q]
          have d1 : ∀ f, PF (h 22 0) f pg (fun a b => if a = X ∧ b = Y then s.testBit 0 else dr (pgD (dta dc len n pg) r) (wd9 (dta dc len n pg) r) r i a b) → V 219 [some (jR 20 0), some (jI (nI pg)), some (jI (nI n)), some (jI (nI r)), some (jI (nI i)), some (jI (nI (4 * i + r))), some (jI (nI (324 * pg + 18 * Y + X)))] [] (jx_st (jx_st h 26 0 a) 22 0 f) := by
            intro f hf
            refine rule (Nat.beq 248) 40 219 _ _ _ ?_
            refine Exists.intro i (And.intro (And.intro hi rfl) ?_)
            have ei : nI (324 * pg + 18 * Y + X) + nI 1 = nI (324 * pg + 18 * Y + (X + 1)) := by rw [nI_add, Nat.add_assoc]
            refine pk_eq (s / 2 ^ 1 % 2) 1 (fun q => ?_) (fun q => ?_) (by rw [show jx_st (jx_st h 26 0 a) 22 0 f 26 0 i = a i from rfl, hsa, jn_shr (by decide) (by omega), jn_and, Nat.and_one_is_mod]) rfl
            · refine Exists.intro (324 * pg + 18 * Y + (X + 1)) (And.intro (And.intro (by omega) (And.intro ei (Or.inr rfl))) ?_)
              rw [hst]
              refine d2 _ ((hf.put (x := X + 1) (y := Y) (by omega) (by omega) true).congr (fun a b _ _ => ?_))
              rw [tb_eq.1 q]
            · refine Exists.intro (324 * pg + 18 * Y + (X + 1)) (And.intro (And.intro (by omega) (And.intro ei (Or.inl rfl))) ?_)
              rw [hst]
              refine d2 _ ((hf.put (x := X + 1) (y := Y) (by omega) (by omega) false).congr (fun a b _ _ => ?_))
              rw [tb_eq.2 q]
          have d0 : V 194 [some (jR 20 0), some (jI (nI pg)), some (jI (nI n)), some (jI (nI r)), some (jI (nI i)), some (jI (nI (4 * i + r))), some (jI (nI (324 * pg + 18 * Y + X)))] [] (jx_st (jx_st h 26 0 a) 22 0 f) := by
            refine rule (Nat.beq 219) 40 194 _ _ _ ?_
            refine Exists.intro i (And.intro (And.intro hi rfl) ?_)
            refine pk_eq (s / 2 ^ 0 % 2) 1 (fun q => ?_) (fun q => ?_) (by rw [show jx_st (jx_st h 26 0 a) 22 0 f 26 0 i = a i from rfl, hsa, jn_and, Nat.and_one_is_mod, Nat.pow_zero, Nat.div_one]) rfl
            · refine Exists.intro (324 * pg + 18 * Y + X) (And.intro (And.intro (by omega) (And.intro rfl (Or.inr rfl))) ?_)
              rw [hst]
              refine d1 _ ((hf.put (x := X) (y := Y) (by omega) (by omega) true).congr (fun a b _ _ => ?_))
              rw [tb_eq.1 q]
            · refine Exists.intro (324 * pg + 18 * Y + X) (And.intro (And.intro (by omega) (And.intro rfl (Or.inl rfl))) ?_)
              rw [hst]
              refine d1 _ ((hf.put (x := X) (y := Y) (by omega) (by omega) false).congr (fun a b _ _ => ?_))
              rw [tb_eq.2 q]
          refine rule (Nat.beq 194) 60 149 _ _ _ ?_
          refine pk_le 15 i (fun q => absurd q (by omega)) (fun _ => ?_)
          refine And.intro (by decide) ?_
          refine And.intro (by decide) ?_
          have eb : nI 4 * nI i + nI r = nI (4 * i + r) := by rw [pk_mul, nI_add]
          have ea : nI 324 * nI pg + nI 18 * (nI 1 + nI 2 * ((nI 4 * nI i + nI r) / nI 8)) + nI 1 + nI 2 * (nI 4 * nI i + nI r - (nI 4 * nI i + nI r) / nI 8 * nI 8) = nI (324 * pg + 18 * Y + X) := by
            rw [eb, jn_rem (by omega) (by decide) (by decide), pk_div (by omega) (by decide) (by decide), pk_mul, pk_mul, pk_mul, nI_add, pk_mul, nI_add, nI_add, nI_add]
            congr 1
            rw [hX, hY]
            unfold bX bY
            omega
          exact jv_to (V := V) d0 (by rw [ea, eb]) rfl rfl)
      have fill := jl_up (P := fun i => 4 ≤ i → ∀ (a : Nat → Int32), (∀ k, 4 ≤ k → k < i → a k = nI (dta dc len n pg (11 * r + (k - 4)))) → V 107 [some (jR 20 0), some (jI (nI pg)), some (jI (nI n)), some (jI (nI r)), some (jI (nI i)), o5, o6] [] (jx_st (jx_st h 26 0 a) 22 0 f)) 15
        (by
          intro _ a ha
          refine rule (Nat.beq 149) 20 107 _ _ _ ?_
          refine pk_le 15 15 (fun _ => ?_) (fun q => absurd q (Nat.lt_irrefl _))
          have ha' : ∀ k, 4 ≤ k → k < 15 → jx_st (jx_st h 26 0 a) 22 0 f 26 0 k = nI ((fun k => dta dc len n pg (11 * r + (k - 4))) k) := ha
          refine jx_cal (S_M_check ha' (fun k _ => h16 _)) rfl (fun q h2 hq => ?_)
          obtain ⟨a2, rfl, ga2⟩ := hq
          refine jv_to (V := V) (draw a2 ga2 0 (Nat.zero_le _) o5 o6 f hf) rfl rfl ?_
          rw [jx_sc (show 22 ≠ 26 by decide), jx_st_st])
        (fun i hi ih2 => by
          intro hi4 a ha
          refine rule (Nat.beq 107) 30 107 _ _ _ ?_
          refine pk_le 15 i (fun q => absurd q (by omega)) (fun _ => ?_)
          have ei : nI 11 * nI r + nI i - nI 4 = nI (11 * r + (i - 4)) := by
            rw [pk_mul, nI_add, show nI (11 * r + i) - nI 4 = nI (11 * r + i - 4) from pk_sub (show 4 ≤ 11 * r + i by omega), show 11 * r + i - 4 = 11 * r + (i - 4) by omega]
          have hw' : AR (jx_st (jx_st h 26 0 a) 22 0 f 23 0) 15 16 gf_pw := hw
          have hl' : jx_st (jx_st h 26 0 a) 22 0 f 20 0 1 = nI len := hl
          have hd' : AR (jx_st (jx_st h 26 0 a) 22 0 f 21 0) 80 256 dc := hd
          refine jx_cal (S_M_dataOf (k := 11 * r + (i - 4)) hw' hl' hl9 hd' hn hpg (by omega)) (congrArg (fun z => [jR 20 0, jI (nI pg), jI (nI n), jI z]) ei) (fun q h2 hq => ?_)
          obtain ⟨rfl, rfl⟩ := hq
          refine Exists.intro i (And.intro (And.intro hi rfl) ?_)
          refine jv_to (V := V) (ih2 (by omega) (upd a i (nI (dta dc len n pg (11 * r + (i - 4))))) (fun k h4 hk => ?_)) (by rw [nI_add]) rfl (by rw [jx_sc (show 22 ≠ 26 by decide), jx_st_st]; rfl)
          by_cases hki : k = i
          · subst hki; exact upd_same _ _ _
          · rw [upd_ne _ _ hki]; exact ha k h4 (by omega))
      refine rule (Nat.beq 107) 20 99 _ _ _ ?_
      refine pk_le 4 r (fun q => absurd q (by omega)) (fun _ => ?_)
      exact fill 4 (by decide) (Nat.le_refl _) a (fun k h4 hk => absurd hk (by omega)))
  -- the frame
  have frm1 := jl_up (P := fun y => ∀ (o4 o5 : Option jxV) (f : Nat → Int32) (D : Nat → Nat → Bool), PF (h 22 0) f pg D → (∀ a b, a < 18 → b < y → D a b = if edge a b = true then fr a b else false) → V 2 [some (jR 20 0), some (jI (nI pg)), some (jI (nI n)), some (jI (nI y)), o4, o5, none] [] (jx_st h 22 0 f)) 18
    (by
      intro o4 o5 f D hf hD
      refine rule (Nat.beq 99) 20 2 _ _ _ ?_
      refine pk_le 18 18 (fun _ => ?_) (fun q => absurd q (Nat.lt_irrefl _))
      refine jv_to (V := V) (rows 0 (Nat.zero_le _) o4 o5 none (h 26 0) f (hf.congr (fun a b ha hb => hD a b ha hb))) rfl rfl ?_
      rw [jx_st_id])
    (fun y hy ih => by
      intro o4 o5 f D hf hD
      have inner := jl_up (P := fun x => ∀ (o5 : Option jxV) (f : Nat → Int32) (D : Nat → Nat → Bool), PF (h 22 0) f pg D → (∀ a b, a < 18 → (b < y ∨ (b = y ∧ a < x)) → D a b = if edge a b = true then fr a b else false) → V 11 [some (jR 20 0), some (jI (nI pg)), some (jI (nI n)), some (jI (nI y)), some (jI (nI x)), o5, none] [] (jx_st h 22 0 f)) 18
        (by
          intro o5 f D hf hD
          refine rule (Nat.beq 2) 20 11 _ _ _ ?_
          refine pk_le 18 18 (fun _ => ?_) (fun q => absurd q (Nat.lt_irrefl _))
          exact jv_to (V := V) (ih (some (jI (nI 18))) o5 f D hf (fun a b ha hb => hD a b ha (by omega))) (by rw [nI_add]) rfl rfl)
        (fun x hx ih2 => by
          intro o5 f D hf hD
          have nxt : ∀ c : Bool, (if edge x y = true then fr x y else false) = c → V 11 [some (jR 20 0), some (jI (nI pg)), some (jI (nI n)), some (jI (nI y)), some (jI (nI x + nI 1)), some (jI (nI (edge x y).toNat)), none] [] (jx_st h 22 0 (upd f (324 * pg + 18 * y + x) (nI c.toNat))) := by
            intro c hc
            refine jv_to (V := V) (ih2 (some (jI (nI (edge x y).toNat))) _ _ (hf.put hx hy c) (fun a b ha hb => ?_)) (by rw [nI_add]) rfl rfl
            by_cases hab : a = x ∧ b = y
            · rw [if_pos hab, hab.1, hab.2, hc]
            · rw [if_neg hab]
              exact hD a b ha (by omega)
          have hst : ∀ (j : Nat) (v : Int32), jx_st (jx_st h 22 0 f) 22 0 (upd (jx_st h 22 0 f 22 0) j v) = jx_st h 22 0 (upd f j v) := fun j v => by rw [jx_st_same, jx_st_st]
          have mid : V 47 [some (jR 20 0), some (jI (nI pg)), some (jI (nI n)), some (jI (nI y)), some (jI (nI x)), some (jI (nI (edge x y).toNat)), none] [] (jx_st h 22 0 f) := by
            refine rule (Nat.beq 11) 40 47 _ _ _ ?_
            refine pk_eq (edge x y).toNat 0 (fun q => ?_) (fun q => ?_) rfl rfl (by have := toNat_le (edge x y); omega) (by decide)
            · refine Exists.intro (324 * pg + 18 * y + x) (And.intro (And.intro (by omega) (And.intro (jn_at pg x y) (Or.inl rfl))) ?_)
              rw [hst]
              exact nxt false (by rw [tn0 q]; rfl)
            · refine jx_cal (S_M_frame hx hy) rfl (fun q2 h2 hq => ?_)
              obtain ⟨rfl, rfl⟩ := hq
              refine pk_eq (fr x y).toNat 0 (fun q3 => ?_) (fun q3 => ?_) rfl rfl (by have := toNat_le (fr x y); omega) (by decide)
              · refine Exists.intro (324 * pg + 18 * y + x) (And.intro (And.intro (by omega) (And.intro (jn_at pg x y) (Or.inl rfl))) ?_)
                rw [hst]
                exact nxt false (by rw [if_pos (tn1 q), tn0 q3])
              · refine Exists.intro (324 * pg + 18 * y + x) (And.intro (And.intro (by omega) (And.intro (jn_at pg x y) (Or.inr rfl))) ?_)
                rw [hst]
                exact nxt true (by rw [if_pos (tn1 q), tn1 q3])
          refine rule (Nat.beq 47) 40 11 _ _ _ ?_
          refine pk_le 18 x (fun q => absurd q (by omega)) (fun _ => ?_)
          have leaf : ∀ v, v = (edge x y).toNat → V 47 [some (jR 20 0), some (jI (nI pg)), some (jI (nI n)), some (jI (nI y)), some (jI (nI x)), some (jI (nI v)), none] [] (jx_st h 22 0 f) := fun v hv => jv_to (V := V) mid (by rw [hv]) rfl rfl
          refine pk_eq x 0 (fun q1 => ?_) (fun q1 => ?_)
          · exact leaf 1 (by simp [edge, q1])
          refine pk_eq y 0 (fun q2 => ?_) (fun q2 => ?_)
          · exact leaf 1 (by simp [edge, q2])
          refine pk_eq x 17 (fun q3 => ?_) (fun q3 => ?_)
          · exact leaf 1 (by simp [edge, q3])
          refine pk_eq y 17 (fun q4 => ?_) (fun q4 => ?_)
          · exact leaf 1 (by simp [edge, q4])
          · exact leaf 0 (by simp [edge, q1, q2, q3, q4]))
      refine rule (Nat.beq 11) 20 2 _ _ _ ?_
      refine pk_le 18 y (fun q => absurd q (by omega)) (fun _ => ?_)
      exact inner 0 (Nat.zero_le _) o5 f D hf (fun a b ha hb => hD a b ha (by omega)))
  refine rule (Nat.beq 2) 10 0 _ _ _ ?_
  exact jv_to (V := V) (frm1 0 (Nat.zero_le _) none none (h 22 0) D0 ⟨hD0, fun _ _ => rfl⟩ (fun a b ha hb => absurd hb (Nat.not_lt_zero _))) rfl rfl (jx_st_id h 22 0).symm
theorem S_M_print {len : Nat} {dc : Nat → Nat} {DD : Nat → Nat → Nat → Bool} {h : jxH} (hw : AR (h 23 0) 15 16 gf_pw) (hl : h 20 0 1 = nI len) (hl9 : len ≤ 80) (hd : AR (h 21 0) 80 256 dc) (hD : ∀ p, p < 6 → PA (h 22 0) p (DD p)) : jx_MW 105 [jR 20 0] h
    (fun q h' => (0 < len → q = nI ((len + 19) / 20 + 2) ∧ (∀ k i, k ≠ 20 → k ≠ 22 → k ≠ 26 → h' k i = h k i) ∧ h' 20 0 = upd (upd (h 20 0) 0 (nI 0)) 3 (nI ((len + 19) / 20 + 2)) ∧ (∀ k, 324 * ((len + 19) / 20 + 2) ≤ k → h' 22 0 k = h 22 0 k) ∧ (∀ p, p < (len + 19) / 20 + 2 → PA (h' 22 0) p (pgD (dta dc len ((len + 19) / 20) p) 4))) ∧ (len = 0 → h' = thr h 1)) := by
  refine jx_MW_by [some (jR 20 0), none, none] (by decide) rfl (Nat.le_of_ble_eq_true rfl) (fun V rule => ?_)
  by_cases hl0 : len = 0
  · refine rule (fun _ => false) 40 0 _ _ _ ?_
    refine pk_eq len 0 (fun q => ?_) (fun q => absurd hl0 q) hl rfl
    refine pk_eq 1 0 (fun z => absurd z (by decide)) (fun _ => ?_)
    exact And.intro (fun z => absurd z (by omega)) (fun _ => rfl)
  obtain ⟨n, hne⟩ : ∃ n, n = (len + 19) / 20 := ⟨_, rfl⟩
  have hn1 : 1 ≤ n := by omega
  have hn4 : n ≤ 4 := by omega
  have loop := jl_up (P := fun p => ∀ hh : jxH, (∀ k i, k ≠ 20 → k ≠ 22 → k ≠ 26 → hh k i = h k i) → hh 20 0 = upd (upd (h 20 0) 0 (nI 0)) 3 (nI (n + 2)) → (∀ k, 324 * p ≤ k → hh 22 0 k = h 22 0 k) → (∀ p', p' < p → PA (hh 22 0) p' (pgD (dta dc len n p') 4)) → V 45 [some (jR 20 0), some (jI (nI n)), some (jI (nI p))] [] hh) (n + 2)
    (by
      intro hh h1 h2 h3 h4
      refine rule (fun _ => false) 20 45 _ _ _ ?_
      have e3 : hh 20 0 3 = nI (n + 2) := by rw [h2, upd_same]
      refine pk_le (n + 2) (n + 2) (fun _ => ?_) (fun q => absurd q (Nat.lt_irrefl _)) e3 rfl
      subst hne
      exact And.intro (fun _ => And.intro e3 (And.intro h1 (And.intro h2 (And.intro h3 h4)))) (fun z => absurd z hl0))
    (fun p hp ih => by
      intro hh h1 h2 h3 h4
      refine rule (Nat.beq 45) 40 45 _ _ _ ?_
      have e3 : hh 20 0 3 = nI (n + 2) := by rw [h2, upd_same]
      have e1 : hh 20 0 1 = nI len := by rw [h2, upd_ne _ _ (by decide), upd_ne _ _ (by decide)]; exact hl
      have hdh : AR (hh 21 0) 80 256 dc := by rw [h1 21 0 (by decide) (by decide) (by decide)]; exact hd
      have hwh : AR (hh 23 0) 15 16 gf_pw := by rw [h1 23 0 (by decide) (by decide) (by decide)]; exact hw
      have hDh : PA (hh 22 0) p (DD p) := fun x y hx hy => by rw [h3 _ (by omega)]; exact hD p (by omega) x y hx hy
      refine pk_le (n + 2) p (fun q => absurd q (by omega)) (fun _ => ?_) e3 rfl
      refine jx_cal (S_M_printPage (pg := p) hDh hwh e1 hl9 hdh hn4 (by omega)) rfl (fun r h8 hq => ?_)
      obtain ⟨a, f, rfl, hf⟩ := hq
      refine jv_to (V := V) (ih _ ?_ ?_ ?_ ?_) (by rw [nI_add]) rfl rfl
      · intro k i k20 k22 k26
        rw [jx_st_ne (fun z => by cases z; exact k22 rfl), jx_st_ne (fun z => by cases z; exact k26 rfl)]
        exact h1 k i k20 k22 k26
      · exact h2
      · intro k hk
        rw [jx_st_same, hf.2 k (Or.inr (by omega))]
        exact h3 k (by omega)
      · intro p' hp'
        rw [jx_st_same]
        by_cases hpp : p' = p
        · subst hpp; exact hf.1
        · intro x y hx hy
          rw [hf.2 _ (Or.inl (by omega))]
          exact h4 p' (by omega) x y hx hy)
  refine rule (Nat.beq 45) 40 0 _ _ _ ?_
  refine pk_eq len 0 (fun q => absurd q hl0) (fun _ => ?_) hl rfl
  refine pk_eq 0 0 (fun _ => ?_) (fun z => absurd rfl z)
  refine And.intro (by decide) ?_
  have en : (h 20 0 1 + nI 19) / nI 20 = nI n := by
    rw [hl, nI_add, pk_div (by omega) (by decide) (by decide), ← hne]
  refine jv_to (V := V) (loop 0 (Nat.zero_le _) (jx_st h 20 0 (upd (upd (h 20 0) 0 (nI 0)) 3 (nI (n + 2)))) ?_ rfl (fun k _ => rfl) (fun p' hp' => absurd hp' (Nat.not_lt_zero _))) (congrArg (fun z => [some (jR 20 0), some (jI z), some (jI (nI 0))]) en) rfl ?_
  · intro k i k20 _ _
    exact jx_st_ne (fun z => by cases z; exact k20 rfl)
  · rw [jx_st_same, jx_st_st]
    show jx_st h 20 0 (upd (upd (h 20 0) 0 (nI 0)) 3 ((h 20 0 1 + nI 19) / nI 20 + nI 2)) = _
    rw [en, nI_add]
