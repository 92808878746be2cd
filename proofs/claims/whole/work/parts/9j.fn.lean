-- ===== a closure is made =====
section CL
variable {x : Cx} {G0 G : SG} {N : Nat} {φ : Nat → Nat} {b lo hi : Nat} {sv : Nat → Option Va} {rc : Nat → Va × Va} {hp : Nat → Option Ob} {out : List Nat} {inp : List Int} {cn : Nat → Int32} {LV LC LK : List Gw} {p n i : Nat} {post : Int32 → SG → Prop}
theorem c_roomY {m : Nat} {R : Int32 → SG → Prop} (hX : XC x G0 N) (h : CG x G0 φ b lo hi sv rc hp out inp cn LV LC LK p G) (hm : m ≤ 1000) (hr : usum hp 168 + m ≤ x.z) (k : R 1 G) : V_X7_isRoomFor N (nI m) G R := by
  have hz := hX.1.2.1
  unfold V_X7_isRoomFor V_X2_hasRoom
  rw [h.1.2.2.2.1, h.1.2.2.2.2.2.2.1, nI_add]
  refine ⟨fun c => absurd ((nI_ltI (by omega) (by omega)).mp c) (by omega), fun _ => eqI ⟨fun c => absurd c (by decide), fun _ => ?_⟩⟩
  rw [show uo G 2 (G 2) = G from uo_id rfl]; exact k
theorem c_roomN {m : Nat} {R : Int32 → SG → Prop} (hX : XC x G0 N) (h : CG x G0 φ b lo hi sv rc hp out inp cn LV LC LK p G) (hu : usum hp 168 ≤ x.z) (hm : m ≤ 1000) (hr : ¬ usum hp 168 + m ≤ x.z) (k : ∀ G1, CG x G0 φ b lo hi sv rc hp out inp cn LV LC LK p G1 → G1 4 0 3 = nI m → R 0 G1) : V_X7_isRoomFor N (nI m) G R := by
  have hz := hX.1.2.1
  unfold V_X7_isRoomFor V_X2_hasRoom
  rw [h.1.2.2.2.1, h.1.2.2.2.2.2.2.1, nI_add]
  refine ⟨fun _ => eqI ⟨fun _ => eqI ?_, fun c => absurd rfl c⟩, fun c => absurd ((nI_ltI (by omega) (by omega)).mpr (by omega)) c⟩
  rw [show uo G 2 (G 2) = G from uo_id rfl]
  exact k _ (CGwt h) rfl
/-- words are taken -/
theorem c_make {m : Nat} {R : Int32 → St → Prop} (h : CG x G0 φ b lo hi sv rc hp out inp cn LV LC LK p G) (k : R (nI (b + usum hp 168)) (us (G 2) 8 (nI (usum hp 168 + m)))) : V_X2_make N (nI m) (G 2) R := by
  unfold V_X2_make
  rw [h.1.2.2.2.1, h.1.2.2.2.2.1, nI_add, nI_add]
  exact eqI (eqI k)
theorem c_here {Kf : List Fr} {R : Int32 → SG → Prop} (hg : StkR (G 10) ((ccl Kf).map (gw φ))) (hl : (ccl Kf).length ≤ 60) (k : R (fw φ (fe Kf)) G) : V_X7_frameHere N G R := by
  unfold V_X7_frameHere
  rcases ccl_fe Kf with ⟨e0, e1⟩ | ⟨q, L, e0⟩
  · rw [e0] at hg
    refine v_peekOut (b := 1) (l := []) hg (by show 0 ≤ 1; decide) (by decide) (eqI ?_)
    rw [show uo G 10 (G 10) = G from uo_id rfl]
    rw [e1, show fw φ 0 = 1 from wd_nil] at k; exact k
  · rw [e0] at hg hl
    refine v_peek (b := 1) hg (by simp) (by rw [List.length_map]; exact hl) (by decide) (eqI ?_)
    rw [show uo G 10 (G 10) = G from uo_id rfl]; exact k
theorem rows_ne {Kf : List Fr} {s : Nat} (hK : Gd x hp Kf) (hn : hp s = none) : ∀ y, y ∈ (cvl Kf).map gv ∨ y ∈ ccl Kf ∨ y ∈ cat Kf → gref y ≠ some s := fun y hy c => by
  obtain ⟨o, ho⟩ := gok_ref ((rows_ok hK).1 y hy).1 c
  rw [hn] at ho; cases ho
theorem CG_N (hX : XC x G0 N) (h : CG x G0 φ b lo hi sv rc hp out inp cn LV LC LK p G) : 2048 ≤ b ∧ b + x.z ≤ N ∧ N < 3000 := by
  have h1 := h.1.2.2.2.2.2.1
  have h2 := hX.2.1
  have h3 := hX.1.2.1
  rcases h1 with e | e <;> omega
theorem i_close {Kf : List Fr} {p0 d q s a : Nat} {sc : List (List Nat)} (hX : XC x G0 N) (hW : PW x sv rc hp out inp) (hK : Cn x hp Kf p0 d sc) (hd : 1 ≤ d) (hnc : ncal Kf ≤ 30) (h : CG x G0 φ b lo hi sv rc hp out inp cn ((cvl Kf).map gv) (ccl Kf) (cat Kf) p G) (hii : i < 1000000) (hpp : p + 1 < 1400) (c1 : x.c p = 10) (c2 : x.c (p + 1) = nI q) (hr : usum hp 168 + 2 ≤ x.z) (hs : s < 168) (hn : hp s = none) (hent : x.ent a = p + 2) (k : ∀ φ1 G1, CG x G0 φ1 b lo hi sv rc (hset hp s (oclo a (fe Kf))) out inp cn (gv (vclo s) :: (cvl Kf).map gv) (ccl Kf) (cat Kf) q G1 → V_X7_run_32 N post n (nI (i + 1)) G1) : V_X7_run_32 N post (n + 1) (nI i) G := by
  refine c_loop hii h.2.2.2.2.2.1 h.2.2.2.2.2.2 ?_
  have ha := CGwt (w := 0) h
  obtain ⟨l1, l2, l3, l4⟩ := Cn_LB hK hd hnc
  unfold V_X7_advance
  refine v_opd hX ha (by omega) (fun G1 h1 w1 o1 => ?_)
  rw [c1]
  refine ⟨fun c => absurd c (by decide), fun c => absurd c (by decide), fun c => absurd c (by decide), fun c => absurd c (by decide), fun c => absurd c (by decide), fun c => absurd c (by decide), fun c => absurd c (by decide), fun c => absurd c (by decide), fun c => absurd c (by decide), fun _ => ?_, fun c => absurd c (by decide), fun c => absurd c (by decide), fun c => absurd c (by decide), fun c => absurd c (by decide), fun c => absurd c (by decide), fun c1 c2 c3 c4 c5 c6 c7 c8 c9 c10 c11 c12 c13 c14 c15 => absurd rfl c10⟩
  unfold V_X7_advanceControl
  refine ⟨fun _ => ?_, fun c => absurd c (by decide), fun c => absurd c (by decide), fun c => absurd c (by decide), fun c => absurd c (by decide), fun c => absurd c (by decide), fun c => absurd c (by decide), fun c10 c11 c12 c13 c14 c15 c16 => absurd rfl c10⟩
  refine v_opd hX h1 (by omega) (fun G2 h2 w2 o2 => ?_)
  rw [c2]
  obtain ⟨hb1, hb2, hb3⟩ := CG_N hX h2
  unfold V_X7_makeClosure
  refine c_roomY (m := 2) hX h2 (by decide) hr ⟨fun _ => c_make (m := 2) h2 (eqI ?_), fun c => absurd c (by decide)⟩
  rw [show (uo G2 2 (us (G2 2) 8 (nI (usum hp 168 + 2)))) 4 0 0 = nI (p + 2) from h2.2.2.2.2.1, ← iI_nat (p + 2)]
  refine v_of (t := 2) (by decide) (v_put (by omega) (by omega) (eqI ?_))
  refine c_here (Kf := Kf) (φ := φ) h2.2.2.1 l3 ?_
  rw [show (1 : Int32) = nI 1 from rfl, nI_add]
  refine v_put (by omega) (by omega) (eqI ?_)
  rw [← iI_nat (b + usum hp 168)]
  refine v_of (t := 6) (by decide) ?_
  rw [uo_uo, uo_uo]
  have hnew := CGnew (s := s) (o := oclo a (fe Kf)) (h1 := up (up (us (G2 2) 8 (nI (usum hp 168 + 2))) 1 (b + usum hp 168) (wd 2 ((p + 2 : Nat) : Int))) 1 (b + usum hp 168 + 1) (fw φ (fe Kf))) hX hW h2 hs hn (rows_ne (Gd_cn hX.1.2.2.2.2.2.2 hK hd hnc) hn) rfl (fun j hj => us4 _ _ hj) (fun a ha => ?_) (fun j hj => ?_)
  · refine v_push hnew.2.1 (by rw [List.length_map, List.length_map]; omega) (by decide) (fun u hu => eqI (eqI (af0 (w2.trans w1) (k _ _ (CGpc (CG9 (LV1 := gv (vclo s) :: (cvl Kf).map gv) hnew ?_))))))
    have ew : gw (phS φ s (b + usum hp 168)) (gv (vclo s)) = wd 6 ((b + usum hp 168 : Nat) : Int) := by
      show wd 6 ((phS φ s (b + usum hp 168) s : Nat) : Int) = _
      rw [phS, if_pos rfl]
    rw [List.map_cons, ew]; exact hu
  · show upd (upd (G2 2 1) (b + usum hp 168) _) (b + usum hp 168 + 1) _ a = _
    rw [updN _ _ (by omega), updN _ _ (by omega)]
  · have hj : j < 2 := hj
    have efw : fw (phS φ s (b + usum hp 168)) (fe Kf) = fw φ (fe Kf) := by
      refine gw_phS (y := some (.inr (fe Kf))) (fun c => ?_)
      have he := EnvR_ok (Cn_env Kf p0 d sc hK)
      obtain ⟨o, ho⟩ := gok_ref (eok_gok he) c
      rw [hn] at ho; cases ho
    show upd (upd (G2 2 1) (b + usum hp 168) _) (b + usum hp 168 + 1) _ (b + usum hp 168 + j) = ([wd 2 ((x.ent a : Nat) : Int), fw (phS φ s (b + usum hp 168)) (fe Kf)] : List Int32).getD j 0
    rw [hent, efw]
    have hcs : j = 0 ∨ j = 1 := by omega
    rcases hcs with rfl | rfl
    · rw [updN _ _ (by omega)]; exact updE _ _ _
    · rw [updE]; rfl
end CL
section AF
variable {x : Cx} {G0 : SG} {N : Nat} {cv cf : Int32} {sv : Nat → Option Va} {rc : Nat → Va × Va} {hp : Nat → Option Ob} {out : List Nat} {inp : List Int} {cn : Nat → Int32}
theorem a_fn {Kf : List Fr} {i c p st d q : Nat} {l : List Nat} {sc : List (List Nat)} (hX : XC x G0 N) (hW : PW x sv rc hp out inp) (hCt : CtK 0 Kf cn) (hA : AkL x hp Kf p i c d q 6 sc l) (hs : cn 2 = nI st) (hst : st < 1000) : Stq x G0 N cv cf ((0, p, vrd i c), Kf, sv, rc, hp, out, inp, cn) := by
  obtain ⟨hi, hvo, hl, hlC, hop, hop32, hc, hpq, hq, hD, hK, hO⟩ := hA
  obtain ⟨a, b9, ps, p1, rfl, hPar, c1, c2, hent, c3, hB, c4, eq⟩ := hO
  obtain ⟨st0, e0, hst0, ecl, hn⟩ := CtK_lim hCt
  have e9 : st0 = st := (nI_eq (by omega) (by omega)).mp (e0.symm.trans hs)
  subst e9
  obtain ⟨l1, l2, l3, l4⟩ := Cn_LB hK (by omega) hn
  have htp := hX.1.2.2.2.2.2.2
  have hrn := hX.1.2.2.2.2.2.1
  have hCr := hW.2.2.1
  have haC := hlC a (by simp)
  have hir := (hX.1.2.2.2.1 i hi).1
  have hlv : (allv Kf).length ≤ 1100 := by
    obtain ⟨st9, dp9, -, -, b3, -, b5, -⟩ := hCt
    omega
  have hCt1 := CtK_st (m1 := 0) hCt hs hst (Nat.le_succ _) rfl
  have hB2 := (AtB_le (AtE_lt (rc := x.r0) (nam := x.nam) (K := x.K) (C := x.C) (c := x.c) (ent := x.ent) d (ps :: sc)) b9 _ _ hB).1
  have hGd := Gd_cn htp hK (by omega) hn
  have hW1 := PW_rm (m := 2) hX.1 hW hGd
  have hK1 := Cn_rm (sv := sv) (rc := rc) (m := 2) (Kf := Kf) (fun _ h => h) hK
  have ref0 : ∀ (g : St) (k : StL) (post : Int32 → St → StL → Prop) (n : Nat), MR x cv cf ((0, p, vrd i c), Kf, sv, rc, hp, out, inp, cn) g k → 20000 ≤ n → (∀ g1, MW x cv cf sv rc hp out inp (cnU cn 2 (nI (st0 + 1))) g1 k → MK Kf g1 → g1 0 15 = nI (fe Kf) → g1 0 17 = 1 → V_X12_room n 2 g1 k (fun r_29 g_27 k_28 => ((¬ r_29 = 0 → V_X12_make n (3 : Int32) (2 : Int32) g_27 k_28 (fun r_33 g_31 k_32 => (vp_in ((8 : Int32) * r_33) 1344 ∧ ∀ g_34 : St, g_34 = up g_31 10 ((8 : Int32) * r_33).toNatClampNeg (enc (hdl (a :: b9))) → (vp_in (((8 : Int32) * r_33) + (1 : Int32)) 1344 ∧ ∀ g_35 : St, g_35 = up g_34 10 (((8 : Int32) * r_33) + (1 : Int32)).toNatClampNeg (g_34 0 15) → V_X12_code (6 : Int32) r_33 (fun r_36 => ∀ g_37 : St, g_37 = us g_35 16 r_36 → V_X12_run_69 post n g_37 k_32))))) ∧ (r_29 = 0 → V_X12_run_69 post n g_27 k_28)))) → V_X12_run_69 post (n + 1) g k := by
    intro g k post n hR hn2 kk
    obtain ⟨hM, hK2, h14, h15, h17⟩ := hR
    refine r_run0 hK2.2.2.2.2.2 h17 (r_list hX.1 hCr hM hK2 h14 h15 hs hst hvo hi hop (fun g1 m1 m2 m3 m4 m5 => ?_))
    unfold V_X12_begin
    refine ⟨fun _ => ?_, fun c => absurd c (by decide)⟩
    rw [m3]
    refine r_cdr1 m1.2.2.2.1 hir (by omega) hvo.2 ?_
    rw [hCr i hi, enc_hdl hl]
    unfold V_X12_begin_21
    exact ⟨fun _ => ⟨fun c => absurd rfl c, fun _ => kk g1 m1 m2 m4 m5⟩, fun c => absurd c (by decide)⟩
  have cls0 : ∀ (G : SG) (post : Int32 → SG → Prop) (n i2 : Nat), CR x G0 ((0, p, vrd i c), Kf, sv, rc, hp, out, inp, cn) G → 20000 ≤ n → i2 + 40 ≤ 1000000 → (usum (rmH x Kf sv rc hp 2) 168 + 2 ≤ x.z → ∀ φ b lo hi G1 n1 i1, CG x G0 φ b lo hi sv rc (rmH x Kf sv rc hp 2) out inp (rmC x Kf sv rc hp (cnU cn 2 (nI (st0 + 1))) 2) ((cvl Kf).map gv) (ccl Kf) (cat Kf) (p + 1) G1 → n ≤ n1 + 5 → i1 ≤ i2 + 5 → V_X7_run_32 N post n1 (nI i1) G1) → (¬ usum (rmH x Kf sv rc hp 2) 168 + 2 ≤ x.z → ∀ φ b lo hi G1 n1 i1, CE x G0 φ b lo hi sv rc (rmH x Kf sv rc hp 2) out inp (rmC x Kf sv rc hp (cnU cn 2 (nI (st0 + 1))) 2) 2 G1 → n ≤ n1 + 5 → i1 ≤ i2 + 5 → V_X7_run_32 N post n1 (nI i1) G1) → V_X7_run_32 N post n (nI i2) G := by
    intro G post n i2 hG hn2 hi2 k1 k0
    obtain ⟨φ, b, lo, hi, hG⟩ := hG
    obtain ⟨n, rfl⟩ : ∃ n', n = n' + 2 := ⟨n - 2, by omega⟩
    refine i_step (n := n + 1) hX hG (by omega) hs hst (by omega) hc (fun G1 h1 => ?_)
    refine i_mk (n := n) (m := 2) hX hW hGd (by omega) (by omega) (by decide) (by decide) h1 (fun hr φ1 b1 G2 n1 i1 h2 b1 b2 => k1 hr φ1 _ lo hi G2 n1 i1 h2 (by omega) (by omega)) (fun hr φ1 b1 G2 h2 => k0 hr φ1 b1 lo hi G2 n (i2 + 1 + 1) h2 (by omega) (by omega)) (fun hr G2 R h2 w2 kR => ?_)
    unfold V_X7_advance
    refine v_opd hX h2 (by omega) (fun G3 h3 w3 o3 => ?_)
    rw [c1]
    refine ⟨fun c => absurd c (by decide), fun c => absurd c (by decide), fun c => absurd c (by decide), fun c => absurd c (by decide), fun c => absurd c (by decide), fun c => absurd c (by decide), fun c => absurd c (by decide), fun c => absurd c (by decide), fun c => absurd c (by decide), fun _ => ?_, fun c => absurd c (by decide), fun c => absurd c (by decide), fun c => absurd c (by decide), fun c => absurd c (by decide), fun c => absurd c (by decide), fun c1 c2 c3 c4 c5 c6 c7 c8 c9 c10 c11 c12 c13 c14 c15 => absurd rfl c10⟩
    unfold V_X7_advanceControl
    refine ⟨fun _ => ?_, fun c => absurd c (by decide), fun c => absurd c (by decide), fun c => absurd c (by decide), fun c => absurd c (by decide), fun c => absurd c (by decide), fun c => absurd c (by decide), fun c10 c11 c12 c13 c14 c15 c16 => absurd rfl c10⟩
    refine v_opd hX h3 (by omega) (fun G4 h4 w4 o4 => ?_)
    unfold V_X7_makeClosure
    exact c_roomN (m := 2) hX h4 hW.2.2.2.2.2.2.1 (by decide) hr (fun G5 h5 w5 => ⟨fun c => absurd rfl c, fun _ => kR _ G5 h5 w5⟩)
  by_cases hr : usum (rmH x Kf sv rc hp 2) 168 + 2 ≤ x.z
  · obtain ⟨s, hs1, hs2, hs3⟩ := PW_free hX.1 hW1
    have hEn := Cn_env Kf q _ sc hK1
    have hO : ObR x.r0 x.nam x.K x.C x.c x.tp x.ent (hset (rmH x Kf sv rc hp 2) s (oclo a (fe Kf))) (oclo a (fe Kf)) := by
      refine ⟨d, sc, ps, b9, p1, haC, hPar, hl.2, fun y hy => hlC y (by simp [hy]), ?_, ?_, c4, by omega, EnvR_add hs2 hEn, by omega, by omega⟩
      · rw [hent]; exact c3
      · rw [hent]; exact hB
    refine ⟨((1, q, vclo s), Kf, sv, rc, hset (rmH x Kf sv rc hp 2) s (oclo a (fe Kf)), out, inp, rmC x Kf sv rc hp (cnU cn 2 (nI (st0 + 1))) 2), ⟨PW_add hW1 hs1 hs2 hr hO, CtK_rm (CtK_st hCt hs hst (by omega) rfl), ⟨hs1, a, fe Kf, hset_at _ _ _⟩, sc, Cn_add hs2 (Cn_mono Kf q _ 1 sc (by omega) hK1)⟩, ?_, ?_, ?_⟩
    · show 3 * (1001 - (rmC x Kf sv rc hp (cnU cn 2 (nI (st0 + 1))) 2 2).toNatClampNeg) + Kf.length + 2 < 3 * (1001 - (cn 2).toNatClampNeg) + Kf.length + 1
      rw [rmC_at (by decide) (by decide), cnU_at, nI_clamp (by omega), ecl]; omega
    · intro G post n i2 hG hn2 hi2 kk
      refine cls0 G post n i2 hG hn2 hi2 (fun _ φ b lo hi G1 n1 i1 h1 b1 b2 => ?_) (fun c => absurd hr c)
      obtain ⟨n1, rfl⟩ : ∃ n', n1 = n' + 1 := ⟨n1 - 1, by omega⟩
      exact i_close (n := n1) (q := q) (s := s) (a := a) hX hW1 hK1 (by omega) hn h1 (by omega) (by omega) c1 c2 hr hs1 hs2 hent (fun φ1 G2 h2 => kk G2 n1 (i1 + 1) ⟨φ1, b, lo, hi, h2⟩ (by omega) (by omega))
    · intro g k post n hR hn2 kk
      refine ref0 g k post n hR hn2 (fun g1 m1 m2 m4 m5 => ?_)
      refine r_room (m := 2) hX.1 hW hGd hlv (by omega) (by decide) m1 m2 (fun _ g2 p1 p2 p3 => ⟨fun _ => ?_, fun c => absurd c (by decide)⟩) (fun c => absurd hr c)
      refine r_make (w := 3) (len := 2) p1 hs1 hs2 hs3 (by omega) ?_
      rw [show (8 : Int32) = nI 8 from rfl, nI_mul, show (1 : Int32) = nI 1 from rfl, nI_add, nI_clamp (by omega), nI_clamp (by omega)]
      refine ⟨vp_in_nI (by omega) (by decide), eqI ⟨vp_in_nI (by omega) (by decide), eqI ?_⟩⟩
      have e15 : (up (us (up (up g2 8 s (nI 3)) 9 s (nI 2)) 4 (nI (usum (rmH x Kf sv rc hp 2) 168 + 2))) 10 (8 * s) (enc (hdl (a :: b9)))) 0 15 = nI (fe Kf) := (p3 15 (by decide) (by decide) (by decide)).trans m4
      rw [e15]
      refine r_code (v := vclo s) (c := 6) (p := s) hs1 rfl rfl (eqI ?_)
      have h0 : ∀ j, j ≠ 4 → (up (up (us (up (up g2 8 s (nI 3)) 9 s (nI 2)) 4 (nI (usum (rmH x Kf sv rc hp 2) 168 + 2))) 10 (8 * s) (enc (hdl (a :: b9)))) 10 (8 * s + 1) (nI (fe Kf))) 0 j = g2 0 j := fun j hj => us4 _ _ hj
      have hrw : ∀ c, c ≠ 0 → c ≠ 8 → c ≠ 9 → c ≠ 10 → (up (up (us (up (up g2 8 s (nI 3)) 9 s (nI 2)) 4 (nI (usum (rmH x Kf sv rc hp 2) 168 + 2))) 10 (8 * s) (enc (hdl (a :: b9)))) 10 (8 * s + 1) (nI (fe Kf))) c = g2 c := fun c d0 d8 d9 d10 => by rw [upB _ _ _ d10, upB _ _ _ d10, usZ d0, upB _ _ _ d9, upB _ _ _ d8]
      refine kk _ k ⟨MW_us (MWnew (o := oclo a (fe Kf)) hW1 p1 hs1 hs2 rfl rfl (fun j hj => ?_) (fun z hz => ?_) rfl h0 hrw) (by decide) (by decide) (by decide), MK_us (MK_new p2 h0 hrw) (by decide) (by decide) (by decide) (by decide), rfl, (p3 17 (by decide) (by decide) (by decide)).trans m5⟩
      · have hj : j < 2 := hj
        show upd (upd (g2 10) (8 * s) _) (8 * s + 1) _ (8 * s + j) = ([enc (vrd a 0), nI (fe Kf)] : List Int32).getD j 0
        have hcs : j = 0 ∨ j = 1 := by omega
        rcases hcs with rfl | rfl
        · rw [updN _ _ (by omega)]; exact updE _ _ _
        · rw [updE]; rfl
      · show upd (upd (g2 10) (8 * s) _) (8 * s + 1) _ z = _
        rw [updN _ _ (by omega), updN _ _ (by omega)]
  · refine ⟨((4, 0, none), [], sv, rc, rmH x Kf sv rc hp 2, out, inp, rmC x Kf sv rc hp (cnU cn 2 (nI (st0 + 1))) 2), ⟨hW1, by decide, by decide⟩, ?_, ?_, ?_⟩
    · show 0 < _ + Kf.length + 1
      omega
    · intro G post n i2 hG hn2 hi2 kk
      exact cls0 G post n i2 hG hn2 hi2 (fun c => absurd c hr) (fun _ φ b lo hi G1 n1 i1 h1 b1 b2 => kk G1 n1 i1 ⟨φ, b, lo, hi, h1⟩ (by omega) (by omega))
    · intro g k post n hR hn2 kk
      refine ref0 g k post n hR hn2 (fun g1 m1 m2 m4 m5 => ?_)
      exact r_room (m := 2) hX.1 hW hGd hlv (by omega) (by decide) m1 m2 (fun c => absurd c hr) (fun _ g2 p1 p2 => ⟨fun c => absurd rfl c, fun _ => kk g2 k ⟨p1, p2⟩⟩)
end AF
