-- ===== a call, both sides =====
section CE1
variable {x : Cx} {cv cf : Int32} {sv : Nat → Option Va} {rc : Nat → Va × Va} {hp : Nat → Option Ob} {out : List Nat} {inp : List Int} {cn : Nat → Int32}
theorem Lst_C {rc r0 : Nat → Va × Va} {C : Nat → Prop} (h : ∀ i, C i → rc i = r0 i) : ∀ {l : List Nat} {v : Va}, (∀ y ∈ l, C y) → Lst r0 v l → Lst rc v l
  | [], v, _, hL => hL
  | y :: l, v, hC, hL => ⟨hL.1, by rw [h y (hC y (by simp))]; exact Lst_C h (fun z hz => hC z (by simp [hz])) hL.2⟩
theorem MW_dp {w : Int32} {g g1 : St} {k : StL} (h : MW x cv cf sv rc hp out inp cn g k) (h1 : ∀ c, c ≠ 0 → g1 c = g c) (h2 : ∀ j, j ≠ 20 → j ≠ 21 → g1 0 j = g 0 j) (h3 : g1 0 21 = w) : MW x cv cf sv rc hp out inp (cnU cn 3 w) g1 k := by
  obtain ⟨a1, a2, a3, a4, a5, a6, a7, a8, a9, a10, a11, a12, a13, a14, a15, a16, a17⟩ := h
  have hM : MW x cv cf sv rc hp out inp (cnU cn 3 w) (us g 21 w) k := ⟨a1, a2, a3, a4, a5, a6, a7, a8, a9, a10, a11, a12, a13, rfl, a15, a16, a17⟩
  refine MW_fr hM (fun c hc h => (h1 c hc).trans (usZ hc).symm) (fun j hj => ?_)
  by_cases e : j = 21
  · rw [e, h3]; rfl
  · rw [us0, if_neg e]; exact h2 j (by omega) e
theorem r_applyC {g : St} {k : StL} {n i st e q : Nat} {rest : List Nat} {vs : List Va} {K : List Fr} {post : St → StL → Prop} (hK : MK ((0, i, rest, st, e, q, vs) :: K) g) (hl : K.length < 1002) (kk : V_X12_call n (nI (allv K).length) g k (fun g_30 k_31 => post g_30 k_31)) : V_X12_apply n (nI (opR 0)) g k post := by
  have t1 := top1 hK.1
  have ec : (nI K.length).toNatClampNeg = K.length := nI_clamp (by omega)
  have e20 : g 20 K.length = nI (allv K).length := hK.2.2.2.1.2.2.2.2.2.1
  unfold V_X12_apply
  rw [t1, ec, e20]
  exact ⟨vp_in_nI hl (by decide), eqI ⟨fun c => absurd rfl c, fun _ => kk⟩⟩
/-- the reference's call: not a closure -/
theorem r_callN {g : St} {k : StL} {n B : Nat} {fv : Va} {post : St → StL → Prop} (hB : B < 1100) (hf : g 21 B = enc fv) (hv : vok fv) (hk : vkd fv ≠ 6) (kk : post (us g 18 4) k) : V_X12_call n (nI B) g k post := by
  have := va_kd_lt fv
  unfold V_X12_call
  rw [nI_clamp (by omega), hf]
  exact ⟨vp_in_nI hB (by decide), eqI (eqI (r_sort hv ⟨fun c => absurd ((nI_eq (b := 6) (by omega) (by decide)).mp c) hk, fun _ => eqI kk⟩))⟩
theorem r_callS {g : St} {k : StL} {n B m s0 r e0 : Nat} {l : List Nat} {post : St → StL → Prop} (hx : XOK x) (hC : ∀ i, x.C i → rc i = x.r0 i) (hvk : vok (x.r0 r).1) (hM : MW x cv cf sv rc hp out inp cn g k) (hB : B < 1100) (h13 : g 0 13 = nI (B + m + 1)) (hm : B + m < 1100) (hf : g 21 B = enc (vclo s0)) (hs : s0 < 168) (ho : hp s0 = some (oclo r e0)) (hr : x.C r) (hL : Lst x.r0 (x.r0 r).1 l) (hLC : ∀ y ∈ l, x.C y) (hn : l.length < n) (hl : l.length < 1000)
    (kk : ((nI l.length = nI m → ((¬ (g 0 20) = (30 : Int32) → V_X12_room n ((2 : Int32) + nI m) g k (fun r_40 g_38 k_39 => ((¬ r_40 = 0 → V_X12_make n (4 : Int32) ((2 : Int32) + nI m) g_38 k_39 (fun r_44 g_42 k_43 => V_X12_load (enc (vclo s0)) (fun r_45 => (vp_in (((8 : Int32) * r_45) + (1 : Int32)) 1344 ∧ (vp_in ((8 : Int32) * r_44) 1344 ∧ ∀ g_46 : St, g_46 = up g_42 10 ((8 : Int32) * r_44).toNatClampNeg (g_42 10 (((8 : Int32) * r_45) + (1 : Int32)).toNatClampNeg) → V_X12_car (enc (vrd r 0)) g_46 k_43 (fun r_49 g_47 k_48 => (vp_in (((8 : Int32) * r_44) + (1 : Int32)) 1344 ∧ ∀ g_50 : St, g_50 = up g_47 10 (((8 : Int32) * r_44) + (1 : Int32)).toNatClampNeg r_49 → ∀ x_51 : Int32, x_51 = (0 : Int32) → V_X12_call_146 post n (nI B) (nI m) (enc (vrd r 0)) r_44 x_51 g_50 k_48))))))) ∧ (r_40 = 0 → post g_38 k_39)))) ∧ ((g 0 20) = (30 : Int32) → ∀ g_52 : St, g_52 = us g 18 (2 : Int32) → post g_52 k))) ∧ (¬ nI l.length = nI m → ∀ g_53 : St, g_53 = us g 18 (4 : Int32) → post g_53 k))) : V_X12_call n (nI B) g k post := by
  have hrr := (hx.2.2.2.1 r hr).1
  have hrn := hx.2.2.2.2.2.1
  have e10 : g 10 (8 * s0) = enc (vrd r 0) := ((hM.2.2.2.2.1 s0 hs).2 _ ho).2.2 0 (by show 0 < 2; decide)
  have e13 : g 0 13 - nI B - 1 = nI m := by
    rw [h13, nI_sub (by omega), show (1 : Int32) = nI 1 from rfl, nI_sub (by omega)]
    congr 1
    omega
  unfold V_X12_call
  rw [nI_clamp (by omega), hf, e13]
  refine ⟨vp_in_nI hB (by decide), eqI (eqI (r_sort (v := vclo s0) hs ⟨fun _ => r_load (v := vclo s0) hs ?_, fun c => absurd rfl c⟩))⟩
  rw [show nI (vld (vclo s0)) = nI s0 from rfl, show (8 : Int32) = nI 8 from rfl, nI_mul, nI_clamp (by omega), e10]
  refine ⟨vp_in_nI (by omega) (by decide), eqI (r_car1 hM.2.2.2.1 hrr (by omega) (by decide) ?_)⟩
  rw [hC r hr]
  refine r_parts (l := l) hM.2.2.2.1 (by omega) hn (by omega) ⟨?_, fun y hy => (hx.2.2.2.1 y (hLC y hy)).1, hvk⟩ kk
  exact Lst_C hC hLC hL
end CE1
section CF1
variable {x : Cx} {G0 : SG} {N : Nat} {cv cf : Int32} {sv : Nat → Option Va} {rc : Nat → Va × Va} {hp : Nat → Option Ob} {out : List Nat} {inp : List Int} {cn : Nat → Int32}
theorem s_call {K : List Fr} {i st e q p : Nat} {vs : List Va} {v : Va} (hX : XC x G0 N) (h : PA x ((1, p, v), (0, i, [], st, e, q, vs) :: K, sv, rc, hp, out, inp, cn)) : Stq x G0 N cv cf ((1, p, v), (0, i, [], st, e, q, vs) :: K, sv, rc, hp, out, inp, cn) := by
  obtain ⟨hW, hCt, hv, ⟨sc0, hK0⟩, D, p1, sc, h1, h2, h3, h4, h5, h6, h7, h8, hF, h10, h11⟩ := rtF h
  obtain ⟨st0, es0, hst0, ecl, hn⟩ := CtK_lim hCt
  obtain ⟨l1, l2, l3, l4⟩ := Cn_LB hK0 (Nat.le_refl _) hn
  have l1 : K.length + 1 ≤ 372 := l1
  have hK := h11 (by decide)
  have htp := hX.1.2.2.2.2.2.2
  have hrn := hX.1.2.2.2.2.2.1
  have hnc : ncal K ≤ 30 := by
    have hn : 0 + ncal K ≤ 30 := hn
    omega
  obtain ⟨-, z2, z3, z4, z5, -⟩ := Cn_all K q _ sc hK
  have hCr := hW.2.2.1
  have hu := hW.2.2.2.2.2.2.1
  have askOK : ∀ y, x.C y → vok (x.r0 y).1 ∧ ∀ s, (x.r0 y).1 = vsym s → s < x.sy := fun y hy => ⟨by rw [← hCr y hy]; exact (hW.2.2.2.1 y (hX.1.2.2.2.1 y hy).1).1, (hX.1.2.2.2.1 y hy).2.1⟩
  obtain ⟨f3, pe, hL, c1, c2, eq⟩ := hF
  have ep : p1 = pe := hL
  subst ep
  have f3 : vs.length ≤ 4 := f3
  have c2 : x.c (p1 + 1) = nI vs.length := c2
  have hVV : ∀ w ∈ v :: vs, VV x.K x.C hp w := fun w hw => by
    rcases List.mem_cons.mp hw with e1 | e1
    · rw [e1]; exact hv
    · exact h1 w e1
  obtain ⟨st9, dp, d1, d2, d3, d4, d5, d6⟩ := id hCt
  have d5 : (vs ++ allv K).length + 1 ≤ st9 := d5
  rw [List.length_append] at d5
  have d6 : 0 + ncal K ≤ dp := d6
  obtain ⟨as, fv, eas⟩ : ∃ as fv, v :: vs = as ++ [fv] := ⟨(v :: vs).dropLast, (v :: vs).getLast (by simp), (List.dropLast_concat_getLast (by simp)).symm⟩
  have hal : as.length = vs.length := by
    have := congrArg List.length eas
    simp at this; omega
  rw [← hal] at c2 f3
  have hlvv : (v :: vs).length = as.length + 1 := by rw [hal]; rfl
  have hGd : Gd x hp ((0, i, [], st, e, q, v :: vs) :: K) := Gd_full htp (Or.inl rfl) hVV (by omega) hK (by omega) hnc (by omega)
  have hmv : ∀ w ∈ as ++ [fv], w ∈ allv ((0, i, [], st, e, q, v :: vs) :: K) := fun w hw => List.mem_append.mpr (Or.inl (by rw [eas]; exact hw))
  have hfV : VV x.K x.C hp fv := hVV fv (by rw [eas]; simp)
  have haV : ∀ w ∈ as, VV x.K x.C hp w := fun w hw => hVV w (by rw [eas]; simp [hw])
  obtain ⟨v1, v2, v3⟩ := cvl_full (op := 0) (K := K) (i := i) (st := st) (e := e) (q := q) (vv := v :: vs) (by decide) (by decide)
  obtain ⟨w1, w2, w3⟩ := cvl_full (op := 0) (K := K) (i := i) (st := st) (e := e) (q := q) (vv := vs) (by decide) (by decide)
  have v1 : (cvl ((0, i, [], st, e, q, v :: vs) :: K)).map gv = (as ++ [fv]).map gv ++ (cvl K).map gv := by rw [v1, eas]
  have hl9 : ((as ++ [fv]).map gv ++ (cvl K).map gv).length ≤ 1550 := by
    simp only [List.length_append, List.length_map, List.length_cons, List.length_nil]; omega
  have hLB : LB ((as ++ [fv]).map gv ++ (cvl K).map gv) (ccl ((0, i, [], st, e, q, v :: vs) :: K)) (cat ((0, i, [], st, e, q, v :: vs) :: K)) := ⟨hl9, by rw [v2]; omega, by rw [v3]; omega⟩
  have cls0 : ∀ (G : SG) (post : Int32 → SG → Prop) (n i2 : Nat), CR x G0 ((1, p, v), (0, i, [], st, e, q, vs) :: K, sv, rc, hp, out, inp, cn) G → 20000 ≤ n → i2 + 40 ≤ 1000000 → (∀ φ b lo hi G1 n1 i1, CG x G0 φ b lo hi sv rc hp out inp cn ((cvl ((0, i, [], st, e, q, v :: vs) :: K)).map gv) (ccl ((0, i, [], st, e, q, v :: vs) :: K)) (cat ((0, i, [], st, e, q, v :: vs) :: K)) p1 G1 → n ≤ n1 + 13 → i1 ≤ i2 + 13 → V_X7_run_32 N post (n1 + 1) (nI i1) G1) → V_X7_run_32 N post n (nI i2) G := by
    intro G post n i2 hG hn2 hi2 kk
    obtain ⟨φ, b, lo, hi, hG⟩ := hG
    rw [w1, w2, w3] at hG
    obtain ⟨n, rfl⟩ : ∃ n', n = n' + 12 := ⟨n - 12, by omega⟩
    refine i_chain 12 p p1 n i2 G hX h7 hG (by omega) (fun G1 m i3 g1 b1 b2 => ?_)
    obtain ⟨m, rfl⟩ : ∃ n', m = n' + 1 := ⟨m - 1, by omega⟩
    refine kk φ b lo hi G1 m i3 ?_ (by omega) (by omega)
    rw [v1, v2, v3, ← eas]; exact g1
  have ref0 : ∀ (g : St) (k : StL) (post : Int32 → St → StL → Prop) (n : Nat), MR x cv cf ((1, p, v), (0, i, [], st, e, q, vs) :: K, sv, rc, hp, out, inp, cn) g k → (∀ g1, MW x cv cf sv rc hp out inp cn g1 k → MK ((0, i, [], st, e, q, v :: vs) :: K) g1 → g1 0 17 = 1 → V_X12_call n (nI (allv K).length) g1 k (fun g2 k2 => V_X12_run_69 post n g2 k2)) → V_X12_run_69 post (n + 1) g k := by
    intro g k post n hR kk
    obtain ⟨hM, hK2, h16, h17⟩ := hR
    exact r_run1 hK2.2.2.2.2.2 h17 hK2.1 (by omega) (r_res hK2 (by omega) (fun y hy => (by cases hy)) (r_arg (Or.inl rfl) hM hK2 h16 h17 (by rw [List.length_append]; omega) (fun g1 m1 m2 m3 => ⟨fun c => absurd rfl c, fun _ => r_applyC m2 (by omega) (kk g1 m1 m2 m3)⟩)))
  have vl : ∀ (g : St), VlM g ((v :: vs) ++ allv K) → g 21 (allv K).length = enc fv ∧ ∀ t, t < as.length → g 21 ((allv K).length + 1 + t) = enc (as.reverse.getD t none) := by
    intro g hV
    rw [eas, List.append_assoc] at hV
    refine ⟨VlM_top (VlM_tl (vs := as) hV), fun t ht => ?_⟩
    have := hV ((allv K).length + 1 + t) (by simp only [List.length_append, List.length_cons, List.length_nil]; omega)
    rw [this, as_rev ht]
    congr 1
    have hi2 : (as ++ ([fv] ++ allv K)).length - 1 - ((allv K).length + 1 + t) = as.length - 1 - t := by
      simp only [List.length_append, List.length_cons, List.length_nil]; omega
    rw [hi2, List.getD_eq_getElem?_getD, List.getD_eq_getElem?_getD, List.getElem?_append_left (by omega)]
  -- a fault of the call
  have flt : ∀ er : Nat, 0 < er → er ≤ 6 → (∀ (φ : Nat → Nat) (b lo hi : Nat) (G : SG) (n : Nat) (R : SG → Prop), CG x G0 φ b lo hi sv rc hp out inp cn ((cvl ((0, i, [], st, e, q, v :: vs) :: K)).map gv) (ccl ((0, i, [], st, e, q, v :: vs) :: K)) (cat ((0, i, [], st, e, q, v :: vs) :: K)) (p1 + 2) G → R (uo G 4 (us (G 4) 2 (nI er))) → V_X7_enter N n (nI as.length) G R) → (∀ (g : St) (k : StL) (n : Nat) (R : St → StL → Prop), MW x cv cf sv rc hp out inp cn g k → MK ((0, i, [], st, e, q, v :: vs) :: K) g → 20000 ≤ n → R (us g 18 (nI er)) k → V_X12_call n (nI (allv K).length) g k R) → Stq x G0 N cv cf ((1, p, v), (0, i, [], st, e, q, vs) :: K, sv, rc, hp, out, inp, cn) := by
    intro er he0 he6 hC hR
    refine ⟨((er + 2, 0, none), [], sv, rc, hp, out, inp, cn), ⟨hW, he0, he6⟩, ?_, ?_, ?_⟩
    · show 0 < _ + (K.length + 1) + 2
      omega
    · intro G post n i2 hG hn2 hi2 kk
      refine cls0 G post n i2 hG hn2 hi2 (fun φ b lo hi G1 n1 i1 g1 b1 b2 => ?_)
      refine c_loop (by omega) g1.2.2.2.2.2.1 g1.2.2.2.2.2.2 (i_callA hX (CGwt (w := 0) g1) rfl (by omega) c1 c2 (fun G2 g2 w2 => ?_))
      have g3 := g2
      rw [v1] at g3
      refine hC φ b lo hi G2 n1 _ g2 (af0 w2 (kk _ n1 (i1 + 1) ⟨φ, b, lo, hi, CGflt g3 hLB⟩ (by omega) (by omega)))
    · intro g k post n hR2 hn2 kk
      exact ref0 g k post n hR2 (fun g1 m1 m2 m3 => hR g1 k n _ m1 m2 hn2 (kk _ k ⟨MW_us m1 (by decide) (by decide) (by decide), rfl⟩))
  by_cases hk : vkd fv = 6
  case neg =>
    refine flt 4 (by decide) (by decide) (fun φ b lo hi G n R hG kk => ?_) (fun g k n R hM hKM hn2 kk => ?_)
    · rw [v1] at hG
      refine c_enter hX hW hG hl9 hfV (fun _ => kk) (fun s r e1 es hs ho hc hent => ?_)
      rw [es] at hk
      exact absurd rfl hk
    · exact r_callN (by omega) (vl g hKM.2.2.2.2.1).1 hfV.ok hk kk
  obtain ⟨s0, rfl⟩ : ∃ s, fv = vclo s := by
    rcases fv with _ | v | v | v | v | v | v
    · exact absurd hk (show ¬ 1 = 6 by decide)
    · exact absurd hk (show ¬ 2 = 6 by decide)
    · exact absurd hk (show ¬ 3 = 6 by decide)
    · exact absurd hk (show ¬ 4 = 6 by decide)
    · exact absurd hk (show ¬ 4 = 6 by decide)
    · exact absurd hk (show ¬ 5 = 6 by decide)
    · exact ⟨v, rfl⟩
  obtain ⟨hs0, r, e0, ho⟩ := id hfV
  have hclo := (hW.2.2.2.2.2.1 s0 _ ho).2
  obtain ⟨d0, sc9, ps, b9, p9, q1, q2, q3, q4, q5, q6, q7, q8, q9, q10, q11⟩ := id hclo
  obtain ⟨lp, hLp, hLpC, hmap, hps4⟩ := id q2
  have hpl : lp.length = ps.length := by
    have := congrArg List.length hmap
    simpa using this
  have h13 : ∀ g, MK ((0, i, [], st, e, q, v :: vs) :: K) g → g 0 13 = nI ((allv K).length + as.length + 1) := fun g hKM => by
    rw [hKM.2.1]
    congr 1
    show ((v :: vs) ++ allv K).length = _
    rw [List.length_append]; omega
  have e20 : ∀ g, MK ((0, i, [], st, e, q, v :: vs) :: K) g → g 0 20 = nI (ncal K) := fun g hKM => by
    have := hKM.2.2.1
    rw [show ncal ((0, i, [], st, e, q, v :: vs) :: K) = 0 + ncal K from rfl, Nat.zero_add] at this
    exact this
  by_cases hm : ps.length = as.length
  case neg =>
    refine flt 4 (by decide) (by decide) (fun φ b lo hi G n R hG kk => ?_) (fun g k n R hM hKM hn2 kk => ?_)
    · rw [v1] at hG
      refine c_enter hX hW hG hl9 hfV (fun _ => kk) (fun s r1 e1 es hs ho1 hc hent => ?_)
      cases es
      rw [ho] at ho1; cases ho1
      rw [q5] at hc
      exact absurd ((nI_eq (by omega) (by omega)).mp hc) hm
    · refine r_callS (l := lp) (m := as.length) hX.1 hCr (askOK r q1).1 hM (by omega) (h13 g hKM) (by omega) (vl g hKM.2.2.2.2.1).1 hs0 ho q1 hLp hLpC (by omega) (by omega) ⟨fun c => ?_, fun _ => eqI kk⟩
      rw [hpl] at c
      exact absurd ((nI_eq (by omega) (by omega)).mp c) hm
  have hc9 : x.c (x.ent r) = nI as.length := by rw [q5, hm]
  have hel := (AtB_le (AtE_lt (rc := x.r0) (nam := x.nam) (K := x.K) (C := x.C) (c := x.c) (ent := x.ent) d0 (ps :: sc9)) _ _ _ q6).1
  by_cases h30 : ncal K = 30
  case pos =>
    refine flt 2 (by decide) (by decide) (fun φ b lo hi G n R hG kk => ?_) (fun g k n R hM hKM hn2 kk => ?_)
    · have hG2 := hG
      rw [v1] at hG2
      have e10 : G 10 0 0 = nI 60 := by
        have := hG.2.2.1.1
        rw [List.length_map, v2, z5, h30] at this
        exact this
      refine c_enter hX hW hG2 hl9 hfV (fun k4 => absurd hc9 (k4 s0 r e0 rfl ho)) (fun s r1 e1 es hs ho1 hc hent => ⟨fun c => ?_, fun _ => eqI kk⟩)
      rw [e10] at c
      exact absurd c (by decide)
    · refine r_callS (l := lp) (m := as.length) hX.1 hCr (askOK r q1).1 hM (by omega) (h13 g hKM) (by omega) (vl g hKM.2.2.2.2.1).1 hs0 ho q1 hLp hLpC (by omega) (by omega) ⟨fun _ => ⟨fun c => ?_, fun _ => eqI kk⟩, fun c => ?_⟩
      · rw [e20 g hKM, h30] at c
        exact absurd rfl c
      · rw [hpl, hm] at c
        exact absurd rfl c
  have h29 : ncal K < 30 := by omega
  have hW1 := PW_rm (m := as.length + 2) hX.1 hW hGd
  have hK1 := Cn_rm (sv := sv) (rc := rc) (m := as.length + 2) (Kf := ((0, i, [], st, e, q, v :: vs) :: K)) XK_tl hK
  have hf1 : VV x.K x.C (rmH x ((0, i, [], st, e, q, v :: vs) :: K) sv rc hp (as.length + 2)) (vclo s0) := VV_rm hfV (hmv _ (by simp))
  have ha1 : ∀ w ∈ as, VV x.K x.C (rmH x ((0, i, [], st, e, q, v :: vs) :: K) sv rc hp (as.length + 2)) w := fun w hw => VV_rm (haV w hw) (hmv _ (by simp [hw]))
  have ho1 : (rmH x ((0, i, [], st, e, q, v :: vs) :: K) sv rc hp (as.length + 2)) s0 = some (oclo r e0) := hp_rm ho (Or.inl ⟨vclo s0, hmv _ (by simp), rfl⟩)
  have cn3 : (rmC x ((0, i, [], st, e, q, v :: vs) :: K) sv rc hp cn (as.length + 2)) 3 = nI dp := (rmC_at (by decide) (by decide)).trans d2
  have cn2 : (rmC x ((0, i, [], st, e, q, v :: vs) :: K) sv rc hp cn (as.length + 2)) 2 = nI st9 := (rmC_at (by decide) (by decide)).trans d1
  have emx : (if (rmC x ((0, i, [], st, e, q, v :: vs) :: K) sv rc hp cn (as.length + 2)) 3 < nI (ncal K + 1) then nI (ncal K + 1) else (rmC x ((0, i, [], st, e, q, v :: vs) :: K) sv rc hp cn (as.length + 2)) 3) = nI (max dp (ncal K + 1)) := by
    rw [cn3]
    split
    · rename_i c
      have := (nI_ltI (by omega) (by omega)).mp c
      congr 1; omega
    · rename_i c
      have : ¬ dp < ncal K + 1 := fun z => c (nI_lt z (by omega))
      congr 1; omega
  have clsR : ∀ (G : SG) (post : Int32 → SG → Prop) (n i2 : Nat), CR x G0 ((1, p, v), (0, i, [], st, e, q, vs) :: K, sv, rc, hp, out, inp, cn) G → 20000 ≤ n → i2 + 40 ≤ 1000000 → (usum (rmH x ((0, i, [], st, e, q, v :: vs) :: K) sv rc hp (as.length + 2)) 168 + (as.length + 2) ≤ x.z → ∀ φ b lo hi G1 n1 i1, CG x G0 φ b lo hi sv rc (rmH x ((0, i, [], st, e, q, v :: vs) :: K) sv rc hp (as.length + 2)) out inp (rmC x ((0, i, [], st, e, q, v :: vs) :: K) sv rc hp cn (as.length + 2)) ((cvl ((0, i, [], st, e, q, v :: vs) :: K)).map gv) (ccl ((0, i, [], st, e, q, v :: vs) :: K)) (cat ((0, i, [], st, e, q, v :: vs) :: K)) p1 G1 → n ≤ n1 + 14 → i1 ≤ i2 + 14 → V_X7_run_32 N post (n1 + 1) (nI i1) G1) → (¬ usum (rmH x ((0, i, [], st, e, q, v :: vs) :: K) sv rc hp (as.length + 2)) 168 + (as.length + 2) ≤ x.z → ∀ φ b lo hi G1 n1 i1, CE x G0 φ b lo hi sv rc (rmH x ((0, i, [], st, e, q, v :: vs) :: K) sv rc hp (as.length + 2)) out inp (rmC x ((0, i, [], st, e, q, v :: vs) :: K) sv rc hp cn (as.length + 2)) 2 G1 → n ≤ n1 + 14 → i1 ≤ i2 + 14 → V_X7_run_32 N post n1 (nI i1) G1) → V_X7_run_32 N post n (nI i2) G := by
    intro G post n i2 hG hn2 hi2 k1 k0
    refine cls0 G post n i2 hG hn2 hi2 (fun φ b lo hi G1 n1 i1 g1 b1 b2 => ?_)
    refine i_mk (n := n1) (m := as.length + 2) hX hW hGd (by omega) (by omega) (by omega) (by omega) g1 (fun hr φ1 b3 G2 n2 i3 h2 b4 b5 => ?_) (fun hr φ1 b3 G2 h2 => k0 hr φ1 b3 lo hi G2 n1 (i1 + 1) h2 (by omega) (by omega)) (fun hr G2 R h2 w2 kR => ?_)
    · obtain ⟨n2, rfl⟩ : ∃ n', n2 = n' + 1 := ⟨n2 - 1, by omega⟩
      exact k1 hr φ1 b3 lo hi G2 n2 i3 h2 (by omega) (by omega)
    · refine i_callA hX h2 w2 (by omega) c1 c2 (fun G3 h3 w3 => ?_)
      have h4 := h3
      rw [v1] at h4
      refine c_enter hX hW h4 hl9 hfV (fun k4 => absurd hc9 (k4 s0 r e0 rfl ho)) (fun s r1 e1 es hs ho1 hc hent => ⟨fun _ => ?_, fun c => ?_⟩)
      · rw [show (2 : Int32) + nI as.length = nI (as.length + 2) by rw [show (2 : Int32) = nI 2 from rfl, nI_add, Nat.add_comm]]
        refine c_roomN (m := as.length + 2) hX h3 hu (by omega) hr (fun G5 h5 w5 => ⟨fun _ => kR _ G5 h5 w5, fun c => absurd rfl c⟩)
      · have e10 : G3 10 0 0 = nI (2 * ncal K) := by
          have := h3.2.2.1.1
          rw [List.length_map, v2, z5] at this
          exact this
        rw [e10] at c
        exact absurd (nI_lt (b := 60) (by omega) (by decide)) c
  have refR : ∀ (g : St) (k : StL) (post : Int32 → St → StL → Prop) (n : Nat), MR x cv cf ((1, p, v), (0, i, [], st, e, q, vs) :: K, sv, rc, hp, out, inp, cn) g k → 20000 ≤ n → (∀ g1, MW x cv cf sv rc hp out inp cn g1 k → MK ((0, i, [], st, e, q, v :: vs) :: K) g1 → V_X12_room n (nI (as.length + 2)) g1 k (fun r_40 g_38 k_39 => ((¬ r_40 = 0 → V_X12_make n (4 : Int32) (nI (as.length + 2)) g_38 k_39 (fun r_44 g_42 k_43 => V_X12_load (enc (vclo s0)) (fun r_45 => (vp_in (((8 : Int32) * r_45) + (1 : Int32)) 1344 ∧ (vp_in ((8 : Int32) * r_44) 1344 ∧ ∀ g_46 : St, g_46 = up g_42 10 ((8 : Int32) * r_44).toNatClampNeg (g_42 10 (((8 : Int32) * r_45) + (1 : Int32)).toNatClampNeg) → V_X12_car (enc (vrd r 0)) g_46 k_43 (fun r_49 g_47 k_48 => (vp_in (((8 : Int32) * r_44) + (1 : Int32)) 1344 ∧ ∀ g_50 : St, g_50 = up g_47 10 (((8 : Int32) * r_44) + (1 : Int32)).toNatClampNeg r_49 → ∀ x_51 : Int32, x_51 = (0 : Int32) → V_X12_call_146 (fun g2 k2 => V_X12_run_69 post n g2 k2) n (nI (allv K).length) (nI as.length) (enc (vrd r 0)) r_44 x_51 g_50 k_48))))))) ∧ (r_40 = 0 → V_X12_run_69 post n g_38 k_39)))) → V_X12_run_69 post (n + 1) g k := by
    intro g k post n hR2 hn2 kk
    refine ref0 g k post n hR2 (fun g1 m1 m2 m3 => ?_)
    have k2 := kk g1 m1 m2
    rw [show nI (as.length + 2) = (2 : Int32) + nI as.length by rw [show (2 : Int32) = nI 2 from rfl, nI_add, Nat.add_comm]] at k2
    refine r_callS (l := lp) (m := as.length) hX.1 hCr (askOK r q1).1 m1 (by omega) (h13 g1 m2) (by omega) (vl g1 m2.2.2.2.2.1).1 hs0 ho q1 hLp hLpC (by omega) (by omega) ⟨fun _ => ⟨fun _ => k2, fun c => ?_⟩, fun c => ?_⟩
    · rw [e20 g1 m2] at c
      exact absurd ((nI_eq (b := 30) (by omega) (by decide)).mp c) h30
    · rw [hpl, hm] at c
      exact absurd rfl c
  have hlv : (allv ((0, i, [], st, e, q, v :: vs) :: K)).length ≤ 1100 := by
    show ((v :: vs) ++ allv K).length ≤ 1100
    rw [List.length_append]; omega
  by_cases hr : usum (rmH x ((0, i, [], st, e, q, v :: vs) :: K) sv rc hp (as.length + 2)) 168 + (as.length + 2) ≤ x.z
  case neg =>
    refine ⟨((4, 0, none), [], sv, rc, (rmH x ((0, i, [], st, e, q, v :: vs) :: K) sv rc hp (as.length + 2)), out, inp, (rmC x ((0, i, [], st, e, q, v :: vs) :: K) sv rc hp cn (as.length + 2))), ⟨hW1, by decide, by decide⟩, ?_, ?_, ?_⟩
    · show 0 < _ + (K.length + 1) + 2
      omega
    · intro G post n i2 hG hn2 hi2 kk
      exact clsR G post n i2 hG hn2 hi2 (fun c => absurd c hr) (fun _ φ b lo hi G1 n1 i1 h1 b1 b2 => kk G1 n1 i1 ⟨φ, b, lo, hi, h1⟩ (by omega) (by omega))
    · intro g k post n hR2 hn2 kk
      exact refR g k post n hR2 hn2 (fun g1 m1 m2 => r_room (m := as.length + 2) hX.1 hW hGd hlv (by omega) (by omega) m1 m2 (fun c => absurd c hr) (fun _ g2 p1 p2 => ⟨fun c => absurd rfl c, fun _ => kk g2 k ⟨p1, p2⟩⟩))
  obtain ⟨s, s1, s2, s3⟩ := PW_free hX.1 hW1
  have hclo1 := (hW1.2.2.2.2.2.1 s0 _ ho1).2
  have hol : olen (ofrm e0 (x.r0 r).1 as.reverse) = as.length + 2 := by show as.reverse.length + 2 = _; rw [List.length_reverse]
  have hE0 : EnvR x.r0 x.C (rmH x ((0, i, [], st, e, q, v :: vs) :: K) sv rc hp (as.length + 2)) e0 sc9 := by
    obtain ⟨d5, sc5, ps5, b5, p5, u1, u2, u3, u4, u5, u6, u7, u8, u9, u10, u11⟩ := hclo
    by_cases eu : usum hp 168 + (as.length + 2) ≤ x.z
    · rw [show (rmH x ((0, i, [], st, e, q, v :: vs) :: K) sv rc hp (as.length + 2)) = hp from if_pos eu]; exact q9
    · rw [show (rmH x ((0, i, [], st, e, q, v :: vs) :: K) sv rc hp (as.length + 2)) = gcK x ((0, i, [], st, e, q, v :: vs) :: K) sv rc hp from if_neg eu]
      refine EnvR_live sc9 e0 (fun s hs => ?_) q9
      exact Live_cl (Live_rt (Or.inr (Or.inr (Or.inl ⟨vclo s0, hmv _ (by simp), rfl⟩)))) ho (Or.inr hs)
  have hE1 : EnvR x.r0 x.C (hset (rmH x ((0, i, [], st, e, q, v :: vs) :: K) sv rc hp (as.length + 2)) s (ofrm e0 (x.r0 r).1 as.reverse)) e0 sc9 := EnvR_add s2 hE0
  have hEn : EnvR x.r0 x.C (hset (rmH x ((0, i, [], st, e, q, v :: vs) :: K) sv rc hp (as.length + 2)) s (ofrm e0 (x.r0 r).1 as.reverse)) (s + 1) (ps :: sc9) := ⟨s, e0, (x.r0 r).1, as.reverse, rfl, s1, hset_at _ _ _, q2, by rw [List.length_reverse, hm], hE1⟩
  have hWN : PW x sv rc (hset (rmH x ((0, i, [], st, e, q, v :: vs) :: K) sv rc hp (as.length + 2)) s (ofrm e0 (x.r0 r).1 as.reverse)) out inp := PW_add hW1 s1 s2 (by rw [hol]; exact hr) ⟨by rw [List.length_reverse]; exact f3, fun w hw => VV_add s2 (ha1 w (List.mem_reverse.mp hw)), ps, sc9, q2, by rw [List.length_reverse, hm], hE1, by omega⟩
  have hKN : Cn x (hset (rmH x ((0, i, [], st, e, q, v :: vs) :: K) sv rc hp (as.length + 2)) s (ofrm e0 (x.r0 r).1 as.reverse)) K q (D + 1) sc := Cn_add s2 hK1
  have hq0 : q < x.tp := h4
  have hlsb : LsC x b9 := ⟨Lst_hdl q3, q4⟩
  have clsN : ∀ (G : SG) (post : Int32 → SG → Prop) (n i2 : Nat), CR x G0 ((1, p, v), (0, i, [], st, e, q, vs) :: K, sv, rc, hp, out, inp, cn) G → 20000 ≤ n → i2 + 40 ≤ 1000000 → (∀ φ b lo hi G1 n1 i1, CG x G0 φ b lo hi sv rc (hset (rmH x ((0, i, [], st, e, q, v :: vs) :: K) sv rc hp (as.length + 2)) s (ofrm e0 (x.r0 r).1 as.reverse)) out inp (cnU (rmC x ((0, i, [], st, e, q, v :: vs) :: K) sv rc hp cn (as.length + 2)) 3 (nI (max dp (ncal K + 1)))) ((cvl K).map gv) (gv (vnum (q : Int)) :: some (.inr (s + 1)) :: ccl K) (cat K) (x.ent r + 1) G1 → n ≤ n1 + 16 → i1 ≤ i2 + 16 → V_X7_run_32 N post n1 (nI i1) G1) → V_X7_run_32 N post n (nI i2) G := by
    intro G post n i2 hG hn2 hi2 kk
    refine clsR G post n i2 hG hn2 hi2 (fun _ φ b lo hi G1 n1 i1 g1 b1 b2 => ?_) (fun c => absurd hr c)
    refine c_loop (by omega) g1.2.2.2.2.2.1 g1.2.2.2.2.2.2 (i_callA hX (CGwt (w := 0) g1) rfl (by omega) c1 c2 (fun G2 g2 w2 => ?_))
    refine i_enter (s := s) (q9 := (x.r0 r).1) hX hW1 (Gd_rm hGd) g2 v1 hl9 hf1 f3 ha1 rfl ho1 hc9 (ncl := ncal K) (by rw [v2]; exact z5) h29 hr s1 s2 (by omega) (by omega) (fun G3 w3 g3 => af0 (w3.trans w2) (kk (phS φ s (b + usum (rmH x ((0, i, [], st, e, q, v :: vs) :: K) sv rc hp (as.length + 2)) 168)) b lo hi G3 n1 (i1 + 1) ?_ (by omega) (by omega)))
    rw [emx, v2, v3, ← eq] at g3
    exact g3
  have refN : ∀ (g : St) (k : StL) (post : Int32 → St → StL → Prop) (n : Nat), MR x cv cf ((1, p, v), (0, i, [], st, e, q, vs) :: K, sv, rc, hp, out, inp, cn) g k → 20000 ≤ n → (∀ g1, MW x cv cf sv rc (hset (rmH x ((0, i, [], st, e, q, v :: vs) :: K) sv rc hp (as.length + 2)) s (ofrm e0 (x.r0 r).1 as.reverse)) out inp (cnU (rmC x ((0, i, [], st, e, q, v :: vs) :: K) sv rc hp cn (as.length + 2)) 3 (nI (max dp (ncal K + 1)))) g1 k → (g1 0 12 = nI ((0, i, ([] : List Nat), st, e, q, v :: vs) :: K).length ∧ g1 0 20 = nI (1 + ncal K) ∧ FrM g1 ((0, i, [], st, e, q, v :: vs) :: K) ∧ VlM g1 ((v :: vs) ++ allv K) ∧ g1 0 18 = 0) → V_X12_call_213 (fun g2 k2 => V_X12_run_69 post n g2 k2) 0 (nI (allv K).length) (enc (vrd r 0)) (nI s) g1 k) → V_X12_run_69 post (n + 1) g k := by
    intro g k post n hR2 hn2 kk
    refine refR g k post n hR2 hn2 (fun g1 m1 m2 => r_room (m := as.length + 2) hX.1 hW hGd hlv (by omega) (by omega) m1 m2 (fun _ g2 p1 p2 p3 => ⟨fun _ => ?_, fun c => absurd c (by decide)⟩) (fun c => absurd hr c))
    refine r_make (w := 4) (len := as.length + 2) p1 s1 s2 s3 (by omega) (r_load (v := vclo s0) hs0 ?_)
    rw [show nI (vld (vclo s0)) = nI s0 from rfl, show (8 : Int32) = nI 8 from rfl, nI_mul, nI_mul, show (1 : Int32) = nI 1 from rfl, nI_add, nI_add, nI_clamp (by omega), nI_clamp (by omega), nI_clamp (by omega)]
    refine ⟨vp_in_nI (by omega) (by decide), vp_in_nI (by omega) (by decide), eqI ?_⟩
    have e10 : (us (up (up g2 8 s (nI 4)) 9 s (nI (as.length + 2))) 4 (nI (usum (rmH x ((0, i, [], st, e, q, v :: vs) :: K) sv rc hp (as.length + 2)) 168 + (as.length + 2)))) 10 (8 * s0 + 1) = nI e0 := ((p1.2.2.2.2.1 s0 hs0).2 _ ho1).2.2 1 (by show 1 < 2; decide)
    rw [e10]
    have hRd : RdM (up (us (up (up g2 8 s (nI 4)) 9 s (nI (as.length + 2))) 4 (nI (usum (rmH x ((0, i, [], st, e, q, v :: vs) :: K) sv rc hp (as.length + 2)) 168 + (as.length + 2)))) 10 (8 * s) (nI e0)) rc x.rn := ⟨p1.2.2.2.1.1, fun i hi => p1.2.2.2.1.2 i hi⟩
    have hrr := (hX.1.2.2.2.1 r q1).1
    refine r_car1 hRd hrr (by omega) (by decide) ⟨vp_in_nI (by omega) (by decide), eqI (eqI ?_)⟩
    rw [hCr r q1]
    refine r_call146 (g0 := up (up (us (up (up g2 8 s (nI 4)) 9 s (nI (as.length + 2))) 4 (nI (usum (rmH x ((0, i, [], st, e, q, v :: vs) :: K) sv rc hp (as.length + 2)) 168 + (as.length + 2)))) 10 (8 * s) (nI e0)) 10 (8 * s + 1) (enc (x.r0 r).1)) (f := fun t => enc (as.reverse.getD t none)) s1 f3 (by omega) (fun t ht => (vl g2 p2.2.2.2.2.1).2 t ht) (fun g3 hJ => eqI ?_) as.length 0 n _ (by omega) (by omega) ⟨fun c _ => rfl, rfl, rfl, fun t ht => absurd ht (Nat.not_lt_zero _), fun t _ => rfl⟩
    obtain ⟨j1, j2, j3, j4, j5⟩ := hJ
    have h0 : ∀ j, j ≠ 4 → g3 0 j = g2 0 j := fun j hj => by rw [j1 0 (by decide)]; exact us4 _ _ hj
    have hrw : ∀ c, c ≠ 0 → c ≠ 8 → c ≠ 9 → c ≠ 10 → g3 c = g2 c := fun c d0 d8 d9 d10 => by rw [j1 c d10, upB _ _ _ d10, upB _ _ _ d10, usZ d0, upB _ _ _ d9, upB _ _ _ d8]
    have hMN : MW x cv cf sv rc (hset (rmH x ((0, i, [], st, e, q, v :: vs) :: K) sv rc hp (as.length + 2)) s (ofrm e0 (x.r0 r).1 as.reverse)) out inp (rmC x ((0, i, [], st, e, q, v :: vs) :: K) sv rc hp cn (as.length + 2)) g3 k := by
      refine MWnew (o := ofrm e0 (x.r0 r).1 as.reverse) hW1 p1 s1 s2 ?_ ?_ (fun j hj => ?_) (fun z hz => ?_) ?_ h0 hrw
      · rw [j1 8 (by decide)]; rfl
      · rw [j1 9 (by decide), hol]; rfl
      · have hj : j < (as.reverse.map enc).length + 2 := hj
        rw [List.length_map, List.length_reverse] at hj
        show _ = (nI e0 :: enc (x.r0 r).1 :: as.reverse.map enc).getD j 0
        match j, hj with
        | 0, _ =>
          rw [Nat.add_zero, j2]
          show upd (upd (g2 10) (8 * s) _) (8 * s + 1) _ (8 * s) = _
          rw [updN _ _ (by omega), updE]; rfl
        | 1, _ =>
          rw [j3]
          show upd (upd (g2 10) (8 * s) _) (8 * s + 1) _ (8 * s + 1) = _
          rw [updE]; rfl
        | t + 2, ht =>
          have ht2 : t < as.length := by omega
          have hrl : t < as.reverse.length := by rw [List.length_reverse]; exact ht2
          rw [show 8 * s + (t + 2) = 8 * s + 2 + t by omega, j4 t ht2]
          show enc (as.reverse.getD t none) = (as.reverse.map enc).getD t 0
          rw [List.getD_eq_getElem?_getD, List.getD_eq_getElem?_getD, List.getElem?_map, List.getElem?_eq_getElem hrl]; rfl
      · rw [j5 z hz]
        show upd (upd (g2 10) (8 * s) _) (8 * s + 1) _ z = _
        rw [updN _ _ (by omega), updN _ _ (by omega)]
      · rw [j1 0 (by decide), hol]; rfl
    have hKN2 : MK ((0, i, [], st, e, q, v :: vs) :: K) g3 := MK_new p2 h0 hrw
    obtain ⟨y1, y2, y3, y4, y5, y6⟩ := hKN2
    have y20 : g3 0 20 = nI (ncal K) := e20 g3 ⟨y1, y2, y3, y4, y5, y6⟩
    have y21 : g3 0 21 = nI dp := hMN.2.2.2.2.2.2.2.2.2.2.2.2.2.1.trans cn3
    rw [y20, nI_1]
    refine ⟨fun c => ?_, fun c => eqI ?_⟩
    · have c : nI (ncal K + 1) ≤ g3 0 21 := c
      rw [y21] at c
      have hle := (nI_leI (by omega) (by omega)).mp c
      refine kk _ (MW_dp hMN (fun c hc => usZ hc) (fun j j20 _ => us4 _ _ j20) ?_) ⟨y1, ?_, FrM_fr _ (fun c c1 c2 t ht => by rw [usZ (by omega)]) y4, VlM_fr (fun t ht => rfl) y5, y6⟩
      · show g3 0 21 = _
        rw [y21]; congr 1; omega
      · show nI (ncal K + 1) = _
        rw [Nat.add_comm]
    · have c : ¬ nI (ncal K + 1) ≤ g3 0 21 := c
      rw [y21] at c
      have hle : ¬ ncal K + 1 ≤ dp := fun z => c (nI_le z (by omega))
      refine kk _ (MW_dp hMN (fun c hc => by rw [usZ hc, usZ hc]) (fun j j20 j21 => by rw [us4 _ _ j21, us4 _ _ j20]) ?_) ⟨y1, ?_, FrM_fr _ (fun c c1 c2 t ht => by rw [usZ (by omega), usZ (by omega)]) y4, VlM_fr (fun t ht => rfl) y5, y6⟩
      · show nI (ncal K + 1) = _
        congr 1; omega
      · show nI (ncal K + 1) = _
        rw [Nat.add_comm]
  have hCtN : ∀ m1 K1, (allv K1).length + m1 ≤ (allv K).length + 1 → ncal K1 ≤ ncal K + 1 → CtK m1 K1 (cnU (rmC x ((0, i, [], st, e, q, v :: vs) :: K) sv rc hp cn (as.length + 2)) 3 (nI (max dp (ncal K + 1)))) := fun m1 K1 a1 a2 => ⟨st9, max dp (ncal K + 1), (cnU_ne _ _ (by decide)).trans cn2, cnU_at _ _ _, d3, by omega, by omega, by omega⟩
  have muC : ((cnU (rmC x ((0, i, [], st, e, q, v :: vs) :: K) sv rc hp cn (as.length + 2)) 3 (nI (max dp (ncal K + 1)))) 2).toNatClampNeg = (cn 2).toNatClampNeg := by
    rw [cnU_ne _ _ (by decide), cn2, d1]
  cases b9 with
  | nil =>
    obtain ⟨a1, a2, a3⟩ := q6
    refine ⟨((1, q, vnil), K, sv, rc, (hset (rmH x ((0, i, [], st, e, q, v :: vs) :: K) sv rc hp (as.length + 2)) s (ofrm e0 (x.r0 r).1 as.reverse)), out, inp, (cnU (rmC x ((0, i, [], st, e, q, v :: vs) :: K) sv rc hp cn (as.length + 2)) 3 (nI (max dp (ncal K + 1))))), ⟨hWN, hCtN 1 K (by omega) (by omega), trivial, sc, Cn_mono K q _ 1 sc (by omega) hKN⟩, ?_, ?_, ?_⟩
    · show 3 * (1001 - ((cnU (rmC x ((0, i, [], st, e, q, v :: vs) :: K) sv rc hp cn (as.length + 2)) 3 (nI (max dp (ncal K + 1)))) 2).toNatClampNeg) + K.length + 2 < 3 * (1001 - (cn 2).toNatClampNeg) + (K.length + 1) + 2
      rw [muC]; omega
    · intro G post n i2 hG hn2 hi2 kk
      refine clsN G post n i2 hG hn2 hi2 (fun φ b lo hi G1 n1 i1 g1 b1 b2 => ?_)
      obtain ⟨n1, rfl⟩ : ∃ n', n1 = n' + 2 := ⟨n1 - 2, by omega⟩
      refine i_word (n := n1 + 1) (y := gv vnil) hX g1 (by omega) (by omega) a1 (a2.trans wd_nil.symm) (by rw [List.length_map]; omega) (fun G2 g2 => ?_)
      exact i_ret (n := n1) (q := q) (y := some (.inr (s + 1))) (LC1 := ccl K) hX g2 (by omega) rfl (by omega) (by rw [← a3]; exact q7) (by omega) (by omega) (fun G3 g3 => kk G3 n1 _ ⟨φ, b, lo, hi, g3⟩ (by omega) (by omega))
    · intro g k post n hR2 hn2 kk
      exact refN g k post n hR2 hn2 (fun g1 m1 m2 => r_call213 hX.1 hCr m1 m2 (by omega) q1 q3 q4 s1 (fun y r9 c => (by cases c)) (fun _ g3 a1 a2 a3 a4 => kk g3 k ⟨a1, a2, a3, a4⟩))
  | cons y r9 =>
    obtain ⟨r1, hE, hR1⟩ := q6
    have hyC := q4 y (by simp)
    have hr9 : LsC x r9 := LsC_tl hlsb
    have hlt := AtE_lt (rc := x.r0) (nam := x.nam) (K := x.K) (C := x.C) (c := x.c) (ent := x.ent) d0 (ps :: sc9)
    have hrl := AtR_le hlt r9 r1 p9 hR1
    have q10' : d0 + (ps :: sc9).length ≤ 13 := by show d0 + (sc9.length + 1) ≤ 13; omega
    refine ⟨((0, x.ent r + 1, (x.r0 y).1), (33, i, r9, st, s + 1, q, []) :: K, sv, rc, (hset (rmH x ((0, i, [], st, e, q, v :: vs) :: K) sv rc hp (as.length + 2)) s (ofrm e0 (x.r0 r).1 as.reverse)), out, inp, (cnU (rmC x ((0, i, [], st, e, q, v :: vs) :: K) sv rc hp cn (as.length + 2)) 3 (nI (max dp (ncal K + 1))))), ⟨hWN, hCtN 0 _ (by show (allv K).length + 0 ≤ _; omega) (by show 1 + ncal K ≤ _; omega), (askOK y hyC).1, (askOK y hyC).2, d0, ps :: sc9, r1, hE, by omega, q10', fun w hw => (by cases hw), hr9, h3, hq0, d0, r1, Nat.le_refl _, q10', Chn_mono 0 _ _ _ (Nat.zero_le _) rfl, by omega, Or.inl ⟨rfl, rfl, q11, p9, hR1, q7, q8⟩, fun _ => ⟨hEn, sc, Cn_mono K q _ 2 sc (by omega) hKN⟩, fun c => absurd rfl c⟩, ?_, ?_, ?_⟩
    · show 3 * (1001 - ((cnU (rmC x ((0, i, [], st, e, q, v :: vs) :: K) sv rc hp cn (as.length + 2)) 3 (nI (max dp (ncal K + 1)))) 2).toNatClampNeg) + (K.length + 1) + 1 < 3 * (1001 - (cn 2).toNatClampNeg) + (K.length + 1) + 2
      rw [muC]; omega
    · intro G post n i2 hG hn2 hi2 kk
      exact clsN G post n i2 hG hn2 hi2 (fun φ b lo hi G1 n1 i1 g1 b1 b2 => kk G1 n1 i1 ⟨φ, b, lo, hi, g1⟩ (by omega) (by omega))
    · intro g k post n hR2 hn2 kk
      exact refN g k post n hR2 hn2 (fun g1 m1 m2 => r_call213 hX.1 hCr m1 m2 (by omega) q1 q3 q4 s1 (fun y2 r2 c g3 a1 a2 a3 a4 a5 => by cases c; exact kk g3 k ⟨a1, a2, a3, a4, a5⟩) (fun c => (by cases c)))
end CF1
