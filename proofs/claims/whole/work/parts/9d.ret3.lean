-- ===== a value comes back to while, or among parts =====
section RV
variable {x : Cx} {G0 : SG} {N : Nat} {cv cf : Int32} {sv : Nat → Option Va} {rc : Nat → Va × Va} {hp : Nat → Option Ob} {out : List Nat} {inp : List Int} {cn : Nat → Int32}
theorem r_ag1 {g : St} {k : StL} {i st e q y : Nat} {r : List Nat} {K : List Fr} {post : St → StL → Prop} (hx : XOK x) (hC : ∀ i, x.C i → rc i = x.r0 i) (hM : MW x cv cf sv rc hp out inp cn g k) (hK : MK ((5, i, y :: r, st, e, q, []) :: K) g) (hy : LsC x (y :: r)) (hl : K.length < 1002) (kk : ∀ g1, MW x cv cf sv rc hp out inp cn g1 k → MK ((5, i, r, 1, e, q, []) :: K) g1 → g1 0 14 = enc (x.r0 y).1 → g1 0 15 = nI (fe ((5, i, r, 1, e, q, []) :: K)) → g1 0 17 = 0 → post g1 k) : V_X12_again_82 post (nI K.length) 1 (nI K.length) g k := by
  have ec : (nI K.length).toNatClampNeg = K.length := nI_clamp (by omega)
  have vi : vp_in (nI K.length) 1002 := vp_in_nI hl (by decide)
  have h1 := MK_st (st1 := 1) hK
  unfold V_X12_again_82
  rw [ec]
  refine ⟨vi, eqI ⟨vi, fun _ => r_next hx (MW_up hM (by decide) (by decide)) hC h1 hy hl kk, fun c => ?_⟩⟩
  have : upd (g 18) K.length 1 K.length = 0 := c
  rw [updE] at this
  exact absurd this (by decide)
theorem r_ag0 {g : St} {k : StL} {i st e q a : Nat} {b : List Nat} {K : List Fr} {post : St → StL → Prop} (hx : XOK x) (hC : ∀ i, x.C i → rc i = x.r0 i) (hM : MW x cv cf sv rc hp out inp cn g k) (hK : MK ((5, i, [], st, e, q, []) :: K) g) (hi : x.C i) (hL : Lst x.r0 (x.r0 i).2 (a :: b)) (haC : x.C a) (hl : K.length < 1002) (kk : ∀ g1, MW x cv cf sv rc hp out inp cn g1 k → MK ((5, i, [], 0, e, q, []) :: K) g1 → g1 0 14 = enc (x.r0 a).1 → g1 0 15 = nI (fe ((5, i, [], 0, e, q, []) :: K)) → g1 0 17 = 0 → post g1 k) : V_X12_again_82 post (nI K.length) 0 (nI K.length) g k := by
  have ec : (nI K.length).toNatClampNeg = K.length := nI_clamp (by omega)
  have vi : vp_in (nI K.length) 1002 := vp_in_nI hl (by decide)
  have hrn := hx.2.2.2.2.2.1
  have hir := (hx.2.2.2.1 i hi).1
  have har := (hx.2.2.2.1 a haC).1
  have h1 := MK_st (st1 := 0) hK
  have m1 := MW_up (a := 18) (t := K.length) (w := 0) hM (by decide) (by decide)
  have e16 : (up g 18 K.length 0) 16 K.length = enc (vrd i 0) := hK.2.2.2.1.2.1 (Or.inr rfl)
  unfold V_X12_again_82
  rw [ec]
  refine ⟨vi, eqI ⟨vi, fun c => absurd (updE _ _ _) c, fun _ => ⟨vi, ?_⟩⟩⟩
  rw [e16]
  refine r_cdr1 m1.2.2.2.1 hir (by omega) (by decide) ?_
  rw [hC i hi, enc_hdl hL]
  refine r_car1 m1.2.2.2.1 (i := a) (c := 0) har (by omega) (by decide) ?_
  rw [hC a haC]
  exact r_ask m1 h1 hl kk
theorem s_while {K : List Fr} {i st e q p : Nat} {rest : List Nat} {vs : List Va} {v : Va} (hX : XC x G0 N) (h : PA x ((1, p, v), (5, i, rest, st, e, q, vs) :: K, sv, rc, hp, out, inp, cn)) : Stq x G0 N cv cf ((1, p, v), (5, i, rest, st, e, q, vs) :: K, sv, rc, hp, out, inp, cn) := by
  obtain ⟨hW, hCt, hv, ⟨sc0, hK0⟩, D, p1, sc, h1, h2, h3, h4, h5, h6, h7, h8, h9, h10, h11⟩ := rtF h
  obtain ⟨st0, e0, hst0, ecl, hn⟩ := CtK_lim hCt
  obtain ⟨l1, l2, l3, l4⟩ := Cn_LB hK0 (Nat.le_refl _) hn
  have l1 : K.length + 1 ≤ 372 := l1
  have htp := hX.1.2.2.2.2.2.2
  have hrn := hX.1.2.2.2.2.2.1
  have hlt := AtE_lt (rc := x.r0) (nam := x.nam) (K := x.K) (C := x.C) (c := x.c) (ent := x.ent) D sc
  have hCr := hW.2.2.1
  have askOK : ∀ y, x.C y → vok (x.r0 y).1 ∧ ∀ s, (x.r0 y).1 = vsym s → s < x.sy := fun y hy => ⟨by rw [← hCr y hy]; exact (hW.2.2.2.1 y (hX.1.2.2.2.1 y hy).1).1, (hX.1.2.2.2.1 y hy).2.1⟩
  have hin : ∀ z ∈ rest, z < 1100 := fun z hz => by have := (hX.1.2.2.2.1 z (h2.2 z hz)).1; omega
  have hK := h11 (by decide)
  obtain ⟨rfl, a, b, p0, pa, p2, hi, hL, hLC, hE, c1, c2, hB, c3, c4, c5, c6, c7, eq, hst⟩ := id h9
  have q1 := hlt _ _ _ hE
  have q2 := (AtB_le hlt b (pa + 2) p2 hB).1
  have haC := hLC a (by simp)
  have hir := (hX.1.2.2.2.1 i hi).1
  have har := (hX.1.2.2.2.1 a haC).1
  have l2 : (cvl K).length ≤ 1488 := l2
  have muA : ∀ p' v' rest', mu ((0, p', v'), (5, i, rest', 0, e, q, []) :: K, sv, rc, hp, out, inp, cn) < mu ((1, p, v), (5, i, rest, st, e, q, []) :: K, sv, rc, hp, out, inp, cn) := fun p' v' rest' => by
    show _ + (K.length + 1) + 1 < _ + (K.length + 1) + 2
    omega
  have paC : PA x ((0, p0, (x.r0 a).1), (5, i, [], 0, e, q, []) :: K, sv, rc, hp, out, inp, cn) := ⟨hW, CtK_fr hCt (by omega), (askOK a haC).1, (askOK a haC).2, D, sc, pa, hE, by omega, h6, fun w hw => (by cases hw), ⟨rfl, fun w hw => (by cases hw)⟩, Nat.zero_le _, h4, D, pa, Nat.le_refl _, h6, Chn_mono 0 _ _ _ (Nat.zero_le _) rfl, by omega, ⟨rfl, a, b, p0, pa, p2, hi, hL, hLC, hE, c1, c2, hB, c3, c4, c5, c6, c7, eq, Or.inl ⟨rfl, rfl⟩⟩, fun c => absurd c (by decide), fun _ => hK⟩
  have paY : ∀ y r p' r1, x.C y → LsC x r → xE x D sc (x.r0 y).1 p' r1 → AtR x.r0 x.c (xE x D sc) r r1 p2 → PA x ((0, p', (x.r0 y).1), (5, i, r, 1, e, q, []) :: K, sv, rc, hp, out, inp, cn) := fun y r p' r1 hyC hr hE1 hR1 => by
    have := AtR_le hlt r r1 p2 hR1
    exact ⟨hW, CtK_fr hCt (by omega), (askOK y hyC).1, (askOK y hyC).2, D, sc, r1, hE1, by omega, h6, fun w hw => (by cases hw), hr, Nat.le_refl _, h4, D, r1, Nat.le_refl _, h6, Chn_mono 0 _ _ _ (Nat.zero_le _) rfl, by omega, ⟨rfl, a, b, p0, pa, p2, hi, hL, hLC, hE, c1, c2, hB, c3, c4, c5, c6, c7, eq, Or.inr ⟨rfl, hR1⟩⟩, fun c => absurd c (by decide), fun _ => hK⟩
  have back : ∀ (φ : Nat → Nat) (lo' b' hi' : Nat) (w : Va) (G1 : SG) (m i3 : Nat) (post : Int32 → SG → Prop), i3 + 1 < 1000000 → CG x G0 φ b' lo' hi' sv rc hp out inp cn (gv w :: (cvl K).map gv) (ccl K) (cat K) p2 G1 → (∀ G2, CG x G0 φ b' lo' hi' sv rc hp out inp cn ((cvl K).map gv) (ccl K) (cat K) p0 G2 → V_X7_run_32 N post m (nI (i3 + 1 + 1)) G2) → V_X7_run_32 N post (m + 2) (nI i3) G1 := by
    intro φ lo' b' hi' w G1 m i3 post hii g1 kk
    refine i_drop (n := m + 1) (y := gv w) hX g1 (by omega) rfl (by omega) c3 (by rw [List.length_map]; omega) (fun G2 g2 => ?_)
    exact i_jump (n := m) hX g2 (by omega) (by omega) c4 c5 kk
  rcases hst with ⟨rfl, rfl⟩ | ⟨rfl, hR⟩
  · by_cases en : v = vnil
    · refine ⟨((1, q, vnil), K, sv, rc, hp, out, inp, cn), ⟨hW, CtK_pop hCt (Nat.le_refl _), trivial, sc, Cn_mono K q _ 1 sc (by omega) hK⟩, ?_, ?_, ?_⟩
      · show _ + K.length + 2 < _ + (K.length + 1) + 2
        omega
      · intro G post n i2 hG hn2 hi2 kk
        obtain ⟨φ, b9, lo, hi, hG⟩ := hG
        obtain ⟨n, rfl⟩ : ∃ n', n = n' + 12 := ⟨n - 12, by omega⟩
        refine i_chain 12 p p1 n i2 G hX h7 hG (by omega) (fun G1 m i3 g1 b1 b2 => ?_)
        obtain ⟨m, rfl⟩ : ∃ n', m = n' + 2 := ⟨m - 2, by omega⟩
        refine i_jin (n := m + 1) (y := gv v) (LV1 := (cvl K).map gv) hX g1 (by omega) rfl (by omega) c1 c2 (by rw [List.length_map]; omega) (fun _ G2 g2 => ?_) (fun c => absurd ((cw_nil hv (CWd.rng hX hW.2.2.2.2.2.2.1 g1.1)).mpr en) c)
        exact i_word (n := m) (y := gv vnil) hX g2 (by omega) (by omega) c6 (c7.trans wd_nil.symm) (by rw [List.length_map]; omega) (fun G3 g3 => kk G3 m (i3 + 1 + 1) ⟨φ, b9, lo, hi, by rw [eq]; exact g3⟩ (by omega) (by omega))
      · intro g k post n hR hn2 kk
        obtain ⟨hM, hK2, h16, h17⟩ := hR
        refine r_run1 hK2.2.2.2.2.2 h17 hK2.1 (by omega) (r_res hK2 (by omega) hin ?_)
        have t1 := top1 hK2.1
        have e18 : g 18 K.length = 0 := hK2.2.2.2.1.2.2.2.1
        unfold V_X12_resume_33
        refine ⟨fun c => absurd c (by decide), fun c => absurd c (by decide), fun c => absurd c (by decide), fun _ => ?_, fun c => absurd c (by decide), fun c => absurd c (by decide), fun c1 c2 c3 c4 c6 c32 => absurd rfl c4⟩
        unfold V_X12_again
        rw [t1, h16, en]
        refine eqI ?_
        rw [nI_clamp (by omega)]
        exact ⟨vp_in_nI (by omega) (by decide), fun c => absurd e18 c, fun _ => ⟨fun c => absurd rfl c, fun _ => r_pop hM hK2 (by omega) (by decide) (fun g3 s1 s2 s3 s4 s5 => kk g3 k ⟨s1, s2, s3, s4⟩)⟩⟩
    · -- the condition holds
      have refGo : ∀ (g : St) (k : StL) (post : St → StL → Prop) (n : Nat), MW x cv cf sv rc hp out inp cn g k → MK ((5, i, rest, 0, e, q, []) :: K) g → g 0 16 = enc v → (∀ g1, MW x cv cf sv rc hp out inp cn g1 k → MK ((5, i, b, 0, e, q, []) :: K) g1 → (b ≠ [] → V_X12_again_82 post (nI K.length) 1 (nI K.length) g1 k) ∧ (b = [] → V_X12_again_82 post (nI K.length) 0 (nI K.length) g1 k)) → V_X12_resume_33 post n (nI (opR 5)) (if rest = [] then 1 else 0) g k := by
        intro g k post n hM hK2 h16 kk
        have t1 := top1 hK2.1
        have ec : (nI K.length).toNatClampNeg = K.length := nI_clamp (by omega)
        have vi : vp_in (nI K.length) 1002 := vp_in_nI (by omega) (by decide)
        have e18 : g 18 K.length = 0 := hK2.2.2.2.1.2.2.2.1
        have e16 : g 16 K.length = enc (vrd i 0) := hK2.2.2.2.1.2.1 (Or.inr rfl)
        unfold V_X12_resume_33
        refine ⟨fun c => absurd c (by decide), fun c => absurd c (by decide), fun c => absurd c (by decide), fun _ => ?_, fun c => absurd c (by decide), fun c => absurd c (by decide), fun c1 c2 c3 c4 c6 c32 => absurd rfl c4⟩
        unfold V_X12_again
        rw [t1, h16]
        refine eqI ?_
        rw [ec]
        refine ⟨vi, fun c => absurd e18 c, fun _ => ⟨fun _ => ?_, fun c => absurd ((enc_nil_iff hv.ok).mp c) en⟩⟩
        unfold V_X12_again_32
        rw [ec, e16]
        refine ⟨vi, fun c => absurd e18 c, fun _ => ⟨vi, r_cdr1 hM.2.2.2.1 hir (by omega) (by decide) ?_⟩⟩
        rw [hCr i hi, enc_hdl hL]
        refine r_cdr1 hM.2.2.2.1 (i := a) (c := 0) har (by omega) (by decide) ⟨vi, eqI ?_⟩
        rw [hCr a haC, enc_hdl hL.2]
        have hK3 := MK_rest (rest1 := b) hK2
        have hM3 := MW_up (a := 17) (t := K.length) (w := enc (hdl b)) hM (by decide) (by decide)
        have e17 : (up g 17 K.length (enc (hdl b))) 17 K.length = enc (hdl b) := updE _ _ _
        rw [e17]
        have hbin : ∀ y ∈ b, y < 1100 := fun y hy => by have := (hX.1.2.2.2.1 y (hLC y (by simp [hy]))).1; omega
        obtain ⟨k1, k0⟩ := kk _ hM3 hK3
        exact ⟨vi, fun c => k1 (fun e => c ((hdl_nil hbin).mpr e)), fun c => k0 ((hdl_nil hbin).mp c)⟩
      cases b with
      | nil =>
        obtain ⟨d1, d2, d3⟩ := hB
        refine ⟨_, paC, muA _ _ _, ?_, ?_⟩
        · intro G post n i2 hG hn2 hi2 kk
          obtain ⟨φ, b9, lo, hi, hG⟩ := hG
          obtain ⟨n, rfl⟩ : ∃ n', n = n' + 12 := ⟨n - 12, by omega⟩
          refine i_chain 12 p p1 n i2 G hX h7 hG (by omega) (fun G1 m i3 g1 b1 b2 => ?_)
          obtain ⟨m, rfl⟩ : ∃ n', m = n' + 4 := ⟨m - 4, by omega⟩
          refine i_jin (n := m + 3) (y := gv v) (LV1 := (cvl K).map gv) hX g1 (by omega) rfl (by omega) c1 c2 (by rw [List.length_map]; omega) (fun c => absurd ((cw_nil hv (CWd.rng hX hW.2.2.2.2.2.2.1 g1.1)).mp c) en) (fun _ G2 g2 => ?_)
          refine i_word (n := m + 2) (y := gv vnil) hX g2 (by omega) (by omega) d1 (d2.trans wd_nil.symm) (by rw [List.length_map]; omega) (fun G3 g3 => ?_)
          exact back φ lo b9 hi vnil G3 m (i3 + 1 + 1) post (by omega) (by rw [d3]; exact g3) (fun G4 g4 => kk G4 m _ ⟨φ, b9, lo, hi, g4⟩ (by omega) (by omega))
        · intro g k post n hR hn2 kk
          obtain ⟨hM, hK2, h16, h17⟩ := hR
          refine r_run1 hK2.2.2.2.2.2 h17 hK2.1 (by omega) (r_res hK2 (by omega) hin (refGo g k _ n hM hK2 h16 (fun g1 m1 m2 => ⟨fun c => absurd rfl c, fun _ => ?_⟩)))
          exact r_ag0 hX.1 hCr m1 m2 hi hL haC (by omega) (fun g3 s1 s2 s3 s4 s5 => kk g3 k ⟨s1, s2, s3, s4, s5⟩)
      | cons y r =>
        obtain ⟨r1, hE1, hR1⟩ := hB
        have hyr : LsC x (y :: r) := ⟨Lst_hdl hL.2, fun z hz => hLC z (by simp [show z ∈ y :: r from hz])⟩
        refine ⟨_, paY y r (p1 + 2) r1 (hyr.2 y (by simp)) (LsC_tl hyr) hE1 hR1, ?_, ?_, ?_⟩
        · show _ + (K.length + 1) + 1 < _ + (K.length + 1) + 2
          omega
        · intro G post n i2 hG hn2 hi2 kk
          obtain ⟨φ, b9, lo, hi, hG⟩ := hG
          obtain ⟨n, rfl⟩ : ∃ n', n = n' + 12 := ⟨n - 12, by omega⟩
          refine i_chain 12 p p1 n i2 G hX h7 hG (by omega) (fun G1 m i3 g1 b1 b2 => ?_)
          obtain ⟨m, rfl⟩ : ∃ n', m = n' + 1 := ⟨m - 1, by omega⟩
          exact i_jin (n := m) (y := gv v) (LV1 := (cvl K).map gv) hX g1 (by omega) rfl (by omega) c1 c2 (by rw [List.length_map]; omega) (fun c => absurd ((cw_nil hv (CWd.rng hX hW.2.2.2.2.2.2.1 g1.1)).mp c) en) (fun _ G2 g2 => kk G2 m (i3 + 1) ⟨φ, b9, lo, hi, g2⟩ (by omega) (by omega))
        · intro g k post n hR hn2 kk
          obtain ⟨hM, hK2, h16, h17⟩ := hR
          refine r_run1 hK2.2.2.2.2.2 h17 hK2.1 (by omega) (r_res hK2 (by omega) hin (refGo g k _ n hM hK2 h16 (fun g1 m1 m2 => ⟨fun _ => ?_, fun c => (by cases c)⟩)))
          exact r_ag1 hX.1 hCr m1 m2 hyr (by omega) (fun g3 s1 s2 s3 s4 s5 => kk g3 k ⟨s1, s2, s3, s4, s5⟩)
  · -- a part of the body came back
    have refGo : ∀ (g : St) (k : StL) (post : St → StL → Prop) (n : Nat), MW x cv cf sv rc hp out inp cn g k → MK ((5, i, rest, 1, e, q, []) :: K) g → (rest ≠ [] → V_X12_again_82 post (nI K.length) 1 (nI K.length) g k) → (rest = [] → V_X12_again_82 post (nI K.length) 0 (nI K.length) g k) → V_X12_resume_33 post n (nI (opR 5)) (if rest = [] then 1 else 0) g k := by
      intro g k post n hM hK2 k1 k0
      have t1 := top1 hK2.1
      have ec : (nI K.length).toNatClampNeg = K.length := nI_clamp (by omega)
      have vi : vp_in (nI K.length) 1002 := vp_in_nI (by omega) (by decide)
      have e18 : g 18 K.length = 1 := hK2.2.2.2.1.2.2.2.1
      have e17 : g 17 K.length = enc (hdl rest) := hK2.2.2.2.1.2.2.1
      have n18 : ¬ g 18 K.length = 0 := by rw [e18]; decide
      unfold V_X12_resume_33
      refine ⟨fun c => absurd c (by decide), fun c => absurd c (by decide), fun c => absurd c (by decide), fun _ => ?_, fun c => absurd c (by decide), fun c => absurd c (by decide), fun c1 c2 c3 c4 c6 c32 => absurd rfl c4⟩
      unfold V_X12_again
      rw [t1]
      refine eqI ?_
      rw [ec]
      refine ⟨vi, fun _ => ?_, fun c => absurd c n18⟩
      unfold V_X12_again_32
      rw [ec, e17]
      exact ⟨vi, fun _ => ⟨vi, fun c => k1 (fun e => c ((hdl_nil hin).mpr e)), fun c => k0 ((hdl_nil hin).mp c)⟩, fun c => absurd c n18⟩
    cases rest with
    | nil =>
      have ep : p1 = p2 := hR
      subst ep
      refine ⟨_, paC, muA _ _ _, ?_, ?_⟩
      · intro G post n i2 hG hn2 hi2 kk
        obtain ⟨φ, b9, lo, hi, hG⟩ := hG
        obtain ⟨n, rfl⟩ : ∃ n', n = n' + 12 := ⟨n - 12, by omega⟩
        refine i_chain 12 p p1 n i2 G hX h7 hG (by omega) (fun G1 m i3 g1 b1 b2 => ?_)
        obtain ⟨m, rfl⟩ : ∃ n', m = n' + 2 := ⟨m - 2, by omega⟩
        exact back φ lo b9 hi v G1 m i3 post (by omega) g1 (fun G4 g4 => kk G4 m _ ⟨φ, b9, lo, hi, g4⟩ (by omega) (by omega))
      · intro g k post n hR hn2 kk
        obtain ⟨hM, hK2, h16, h17⟩ := hR
        refine r_run1 hK2.2.2.2.2.2 h17 hK2.1 (by omega) (r_res hK2 (by omega) hin (refGo g k _ n hM hK2 (fun c => absurd rfl c) (fun _ => ?_)))
        exact r_ag0 hX.1 hCr hM hK2 hi hL haC (by omega) (fun g3 s1 s2 s3 s4 s5 => kk g3 k ⟨s1, s2, s3, s4, s5⟩)
    | cons y r =>
      obtain ⟨c7', r1, hE1, hR1⟩ := hR
      refine ⟨_, paY y r (p1 + 1) r1 (h2.2 y (by simp)) (LsC_tl h2) hE1 hR1, ?_, ?_, ?_⟩
      · show _ + (K.length + 1) + 1 < _ + (K.length + 1) + 2
        omega
      · intro G post n i2 hG hn2 hi2 kk
        obtain ⟨φ, b9, lo, hi, hG⟩ := hG
        obtain ⟨n, rfl⟩ : ∃ n', n = n' + 12 := ⟨n - 12, by omega⟩
        refine i_chain 12 p p1 n i2 G hX h7 hG (by omega) (fun G1 m i3 g1 b1 b2 => ?_)
        obtain ⟨m, rfl⟩ : ∃ n', m = n' + 1 := ⟨m - 1, by omega⟩
        exact i_drop (n := m) (y := gv v) (LV1 := (cvl K).map gv) hX g1 (by omega) rfl (by omega) c7' (by rw [List.length_map]; omega) (fun G2 g2 => kk G2 m (i3 + 1) ⟨φ, b9, lo, hi, g2⟩ (by omega) (by omega))
      · intro g k post n hR hn2 kk
        obtain ⟨hM, hK2, h16, h17⟩ := hR
        refine r_run1 hK2.2.2.2.2.2 h17 hK2.1 (by omega) (r_res hK2 (by omega) hin (refGo g k _ n hM hK2 (fun _ => ?_) (fun c => (by cases c))))
        exact r_ag1 hX.1 hCr hM hK2 h2 (by omega) (fun g3 s1 s2 s3 s4 s5 => kk g3 k ⟨s1, s2, s3, s4, s5⟩)
/-- which frames gather values -/
def gth (op : Nat) : Prop := op = 0 ∨ op = 8 ∨ (9 ≤ op ∧ op < 32)
theorem gth_ne {op : Nat} (h : gth op) : ¬ nI (opR op) = 1 ∧ ¬ nI (opR op) = 2 ∧ ¬ nI (opR op) = 3 ∧ ¬ nI (opR op) = 4 ∧ ¬ nI (opR op) = 6 ∧ ¬ nI (opR op) = 32 := by
  have h1 : op < 32 := by rcases h with h | h | h <;> omega
  have h2 : opR op < 32 := by unfold opR; split <;> omega
  have key : ∀ m, m = 1 ∨ m = 2 ∨ m = 3 ∨ m = 4 ∨ m = 6 ∨ m = 32 → ¬ nI (opR op) = nI m := fun m hm c => by
    have := (nI_eq (by omega) (by omega)).mp c
    unfold opR at this
    split at this <;> rcases h with h | h | h <;> omega
  exact ⟨key 1 (by omega), key 2 (by omega), key 3 (by omega), key 4 (by omega), key 6 (by omega), key 32 (by omega)⟩
theorem r_arg {g : St} {k : StL} {op i st e q n : Nat} {rest : List Nat} {vs : List Va} {v : Va} {K : List Fr} {post : St → StL → Prop} (hop : gth op) (hM : MW x cv cf sv rc hp out inp cn g k) (hK : MK ((op, i, rest, st, e, q, vs) :: K) g) (h16 : g 0 16 = enc v) (h17 : g 0 17 = 1) (hl2 : (vs ++ allv K).length < 1100)
    (kk : ∀ g1, MW x cv cf sv rc hp out inp cn g1 k → MK ((op, i, rest, st, e, q, v :: vs) :: K) g1 → g1 0 17 = 1 → (rest ≠ [] → V_X12_next g1 k post) ∧ (rest = [] → V_X12_apply n (nI (opR op)) g1 k post)) : V_X12_resume_33 post n (nI (opR op)) (if rest = [] then 1 else 0) g k := by
  obtain ⟨n1, n2, n3, n4, n6, n32⟩ := gth_ne hop
  have e13 : g 0 13 = nI (vs ++ allv K).length := hK.2.1
  unfold V_X12_resume_33
  refine ⟨fun c => absurd c n1, fun c => absurd c n2, fun c => absurd c n3, fun c => absurd c n4, fun c => absurd c n6, fun c => absurd c n32, fun _ _ _ _ _ _ => ?_⟩
  rw [e13, nI_clamp (by omega), h16]
  refine ⟨vp_in_nI hl2 (by decide), eqI ?_⟩
  rw [show (up g 21 (vs ++ allv K).length (enc v)) 0 13 = nI (vs ++ allv K).length from e13, nI_1]
  refine eqI ?_
  obtain ⟨k1, k0⟩ := kk _ (MW_us (a := 13) (w := nI ((vs ++ allv K).length + 1)) (MW_up (a := 21) (t := (vs ++ allv K).length) (w := enc v) hM (by decide) (by decide)) (by decide) (by decide) (by decide)) (MK_val hK) h17
  cases rest with
  | nil => exact ⟨fun c => absurd c (by decide), fun _ => k0 rfl⟩
  | cons y r => exact ⟨fun _ => k1 (fun c => (by cases c)), fun c => absurd rfl c⟩
theorem s_arg {K : List Fr} {op i st e q p y : Nat} {r : List Nat} {vs : List Va} {v : Va} (hX : XC x G0 N) (hop : gth op) (h : PA x ((1, p, v), (op, i, y :: r, st, e, q, vs) :: K, sv, rc, hp, out, inp, cn)) : Stq x G0 N cv cf ((1, p, v), (op, i, y :: r, st, e, q, vs) :: K, sv, rc, hp, out, inp, cn) := by
  obtain ⟨hW, hCt, hv, ⟨sc0, hK0⟩, D, p1, sc, h1, h2, h3, h4, h5, h6, h7, h8, h9, h10, h11⟩ := rtF h
  obtain ⟨st0, e0, hst0, ecl, hn⟩ := CtK_lim hCt
  obtain ⟨l1, l2, l3, l4⟩ := Cn_LB hK0 (Nat.le_refl _) hn
  have l1 : K.length + 1 ≤ 372 := l1
  have htp := hX.1.2.2.2.2.2.2
  have hrn := hX.1.2.2.2.2.2.1
  have hlt := AtE_lt (rc := x.r0) (nam := x.nam) (K := x.K) (C := x.C) (c := x.c) (ent := x.ent) D sc
  have hCr := hW.2.2.1
  have askOK : ∀ y, x.C y → vok (x.r0 y).1 ∧ ∀ s, (x.r0 y).1 = vsym s → s < x.sy := fun y hy => ⟨by rw [← hCr y hy]; exact (hW.2.2.2.1 y (hX.1.2.2.2.1 y hy).1).1, (hX.1.2.2.2.1 y hy).2.1⟩
  have hin : ∀ z ∈ y :: r, z < 1100 := fun z hz => by have := (hX.1.2.2.2.1 z (h2.2 z hz)).1; omega
  have n33 : op ≠ 33 := by rcases hop with h | h | h <;> omega
  have n7 : op ≠ 7 := by rcases hop with h | h | h <;> omega
  have hK := h11 n33
  have hlv : (vs ++ allv K).length + 1 ≤ 1000 := by
    obtain ⟨st9, dp9, -, -, b3, -, b5, -⟩ := hCt
    have b5 : (vs ++ allv K).length + 1 ≤ st9 := b5
    omega
  have hyC := h2.2 y (by simp)
  have key : ∃ r1, xE x D sc (x.r0 y).1 p1 r1 ∧ r1 < x.tp ∧ FrK x D r1 sc i r st q (v :: vs) op := by
    rcases hop with rfl | rfl | ⟨o1, o2⟩
    · obtain ⟨a1, pe, ⟨r1, hE, hR⟩, a3, a4, a5⟩ := h9
      have := AtL_le hlt r r1 pe hR
      have e1 : (v :: vs).length + r.length = vs.length + (y :: r).length := by show vs.length + 1 + r.length = vs.length + (r.length + 1); omega
      exact ⟨r1, hE, by omega, by rw [e1]; exact a1, pe, hR, a3, by rw [e1]; exact a4, a5⟩
    · obtain ⟨a1, pe, ⟨r1, hE, hR⟩, a3, a5⟩ := h9
      have := AtL_le hlt r r1 pe hR
      have e1 : (v :: vs).length + r.length = vs.length + (y :: r).length := by show vs.length + 1 + r.length = vs.length + (r.length + 1); omega
      exact ⟨r1, hE, by omega, by rw [e1]; exact a1, pe, hR, a3, a5⟩
    · obtain ⟨o, rfl⟩ : ∃ o, op = o + 9 := ⟨op - 9, by omega⟩
      rcases h9 with ⟨h9, -⟩ | ⟨-, a1, a2, a3, pe, ⟨r1, hE, hR⟩, a4, a5, a6, a7⟩
      · omega
      · have := AtL_le hlt r r1 pe hR
        have e1 : (v :: vs).length + 1 + r.length = vs.length + 1 + (y :: r).length := by show vs.length + 1 + 1 + r.length = vs.length + 1 + (r.length + 1); omega
        refine ⟨r1, hE, by omega, Or.inr ⟨o2, ?_⟩⟩
        rw [e1]
        exact ⟨a1, a2, a3, pe, hR, a4, a5, a6, a7⟩
  obtain ⟨r1, hE, hr1, hFr⟩ := key
  refine ⟨((0, p1, (x.r0 y).1), (op, i, r, st, e, q, v :: vs) :: K, sv, rc, hp, out, inp, cn), ⟨hW, CtK_fr hCt (by show vs.length + 1 + 0 ≤ vs.length + 1; omega), (askOK y hyC).1, (askOK y hyC).2, D, sc, r1, hE, hr1, h6, fun w hw => ?_, LsC_tl h2, h3, h4, D, r1, Nat.le_refl _, h6, Chn_mono 0 _ _ _ (Nat.zero_le _) rfl, hr1, hFr, fun c => absurd c n33, fun _ => hK⟩, ?_, ?_, ?_⟩
  · rcases List.mem_cons.mp hw with e1 | e1
    · rw [e1]; exact hv
    · exact h1 w e1
  · show _ + (K.length + 1) + 1 < _ + (K.length + 1) + 2
    omega
  · intro G post n i2 hG hn2 hi2 kk
    obtain ⟨φ, b9, lo, hi, hG⟩ := hG
    obtain ⟨n, rfl⟩ : ∃ n', n = n' + 12 := ⟨n - 12, by omega⟩
    refine i_chain 12 p p1 n i2 G hX h7 hG (by omega) (fun G1 m i3 g1 b1 b2 => ?_)
    refine kk G1 m i3 ⟨φ, b9, lo, hi, ?_⟩ (by omega) (by omega)
    have ev : (cvl ((op, i, r, st, e, q, v :: vs) :: K)).map gv = gv v :: (cvl ((op, i, y :: r, st, e, q, vs) :: K)).map gv := by
      show ((if op = 7 then [] else v :: vs) ++ cvl K).map gv = gv v :: ((if op = 7 then [] else vs) ++ cvl K).map gv
      rw [if_neg n7, if_neg n7]; rfl
    have ek : cat ((op, i, r, st, e, q, v :: vs) :: K) = cat ((op, i, y :: r, st, e, q, vs) :: K) := by
      show (if op = 7 ∧ st = 1 then gv (vnum (q : Int)) :: gv (vnum ((2 * ncal K : Nat) : Int)) :: gv (vnum ((cvl K).length : Int)) :: (v :: vs).map (fun v => gv v) else []) ++ cat K = (if op = 7 ∧ st = 1 then gv (vnum (q : Int)) :: gv (vnum ((2 * ncal K : Nat) : Int)) :: gv (vnum ((cvl K).length : Int)) :: vs.map (fun v => gv v) else []) ++ cat K
      rw [if_neg (fun c => n7 c.1), if_neg (fun c => n7 c.1)]
    rw [ev, ek]; exact g1
  · intro g k post n hR hn2 kk
    obtain ⟨hM, hK2, h16, h17⟩ := hR
    refine r_run1 hK2.2.2.2.2.2 h17 hK2.1 (by omega) (r_res hK2 (by omega) hin (r_arg hop hM hK2 h16 h17 (by omega) (fun g1 m1 m2 m3 => ⟨fun _ => ?_, fun c => (by cases c)⟩)))
    exact r_next hX.1 m1 hCr m2 h2 (by omega) (fun g3 s1 s2 s3 s4 s5 => kk g3 k ⟨s1, s2, s3, s4, s5⟩)
end RV
