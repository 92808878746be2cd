-- ===== a symbol is asked for; set =====
section AS
variable {x : Cx} {G0 : SG} {N : Nat} {cv cf : Int32} {sv : Nat → Option Va} {rc : Nat → Va × Va} {hp : Nat → Option Ob} {out : List Nat} {inp : List Int} {cn : Nat → Int32}
theorem PW_olen (hW : PW x sv rc hp out inp) : ∀ t o, hp t = some o → olen o ≤ 8 := fun t o h => ObR_len (hW.2.2.2.2.2.1 t o h).2
theorem PW_sv {s : Nat} {v : Va} (hW : PW x sv rc hp out inp) (hv : VV x.K x.C hp v) : PW x (svU sv s v) rc hp out inp := by
  obtain ⟨h1, h2⟩ := hW
  refine ⟨fun t w ht hw => ?_, h2⟩
  by_cases e : t = s
  · rw [svU, if_pos e] at hw; cases hw; exact hv
  · rw [svU, if_neg e] at hw; exact h1 t w ht hw
theorem l_getD {l : List Va} {j : Nat} (hj : j < l.length) : l.getD j none ∈ l := by
  rw [List.getD_eq_getElem?_getD, List.getElem?_eq_getElem hj]; exact List.getElem_mem hj
theorem frm_val (hW : PW x sv rc hp out inp) {t p9 j : Nat} {q9 : Va} {l9 : List Va} (ho : hp t = some (ofrm p9 q9 l9)) (hj : j < l9.length) : VV x.K x.C hp (l9.getD j none) := (hW.2.2.2.2.2.1 t _ ho).2.2.1 _ (l_getD hj)
theorem frm_fld {g : St} {t p9 j : Nat} {q9 : Va} {l9 : List Va} (hM : HpM g hp) (ht : t < 168) (ho : hp t = some (ofrm p9 q9 l9)) (hj : j < l9.length) : g 10 (8 * t + 2 + j) = enc (l9.getD j none) := by
  obtain ⟨-, -, h3⟩ := (hM t ht).2 _ ho
  have := h3 (2 + j) (by show 2 + j < (nI p9 :: enc q9 :: l9.map enc).length; simp; omega)
  rw [show 8 * t + 2 + j = 8 * t + (2 + j) by omega, this]
  show (nI p9 :: enc q9 :: l9.map enc).getD (2 + j) 0 = _
  rw [show 2 + j = j + 1 + 1 by omega]
  show (l9.map enc).getD j 0 = _
  rw [List.getD_eq_getElem?_getD, List.getElem?_map, List.getElem?_eq_getElem hj, List.getD_eq_getElem?_getD, List.getElem?_eq_getElem hj]; rfl
theorem a_sym {Kf : List Fr} {s p st : Nat} (hX : XC x G0 N) (h : PA x ((0, p, vsym s), Kf, sv, rc, hp, out, inp, cn)) (hs : cn 2 = nI st) (hst : st < 1000) : Stq x G0 N cv cf ((0, p, vsym s), Kf, sv, rc, hp, out, inp, cn) := by
  obtain ⟨hW, hCt, hvo, hsy, D, sc, q, hE, hq, hD, hK⟩ := h
  obtain ⟨st0, e0, hst0, ecl, hn⟩ := CtK_lim hCt
  have e9 : st0 = st := (nI_eq (by omega) (by omega)).mp (e0.symm.trans hs)
  subst e9
  have hlt := AtE_lt D sc _ p q hE
  have hD1 : 1 ≤ D := by
    cases D with
    | zero => exact hE.elim
    | succ D => omega
  obtain ⟨l1, l2, l3, l4⟩ := Cn_LB hK hD1 hn
  have htp := hX.1.2.2.2.2.2.2
  have hss := hsy s rfl
  have hy := hX.1.2.2.1.2.1
  have hu := hW.2.2.2.2.2.2.1
  have hEn := Cn_env Kf q D sc hK
  obtain ⟨c0, c3, h40, ks, kn⟩ : x.c p = 1 ∧ q = p + 3 ∧ s < 40 ∧ (∀ pl, loc sc s = some pl → x.c (p + 1) = 5 ∧ x.c (p + 2) = nI pl) ∧ (loc sc s = none → x.c (p + 1) = 3 ∧ x.c (p + 2) = nI s) := by
    cases D with
    | zero => exact hE.elim
    | succ D => exact hE
  have muR : ∀ v', mu ((1, p + 3, v'), Kf, sv, rc, hp, out, inp, cnU cn 2 (nI (st0 + 1))) < mu ((0, p, vsym s), Kf, sv, rc, hp, out, inp, cn) := fun v' => by
    show 3 * (1001 - (cnU cn 2 (nI (st0 + 1)) 2).toNatClampNeg) + Kf.length + 2 < 3 * (1001 - (cn 2).toNatClampNeg) + Kf.length + 1
    rw [cnU_at, nI_clamp (by omega), ecl]; omega
  cases hl : loc sc s with
  | some pl =>
    obtain ⟨c1, c2⟩ := ks pl hl
    obtain ⟨t, p9, q9, l9, hF, ho, hj, ht, hpl⟩ := loc_at sc (fe Kf) s pl hEn hl
    refine ⟨((1, p + 3, l9.getD (pl % 4) none), Kf, sv, rc, hp, out, inp, cnU cn 2 (nI (st0 + 1))), ⟨hW, CtK_st hCt hs hst (by omega) rfl, frm_val hW ho hj, sc, ?_⟩, muR _, ?_, ?_⟩
    · rw [← c3]; exact Cn_mono Kf q D 1 sc hD1 hK
    · intro G post n i hG hn2 hi2 kk
      obtain ⟨φ, b, lo, hi, hG⟩ := hG
      obtain ⟨n, rfl⟩ : ∃ n', n = n' + 2 := ⟨n - 2, by omega⟩
      refine i_step (n := n + 1) hX hG (by omega) hs hst (by omega) c0 (fun G1 h1 => ?_)
      exact i_local (n := n) (pl := pl) hX hu h1 (by omega) (by omega) c1 c2 (by omega) (by omega) l3 hF ho hj (by rw [List.length_map]; omega) (fun G2 h2 => kk G2 n (i + 1 + 1) ⟨φ, b, lo, hi, h2⟩ (by omega) (by omega))
    · intro g k post n hR hn2 kk
      obtain ⟨hM, hK2, h14, h15, h17⟩ := hR
      refine r_run0 hK2.2.2.2.2.2 h17 (r_eval hM hK2 h14 h15 hs hst hvo (fun c => absurd rfl c) (fun _ g1 m1 m2 m3 m4 m5 => ?_) (fun c => absurd c (show ¬ 3 = 4 by decide)))
      unfold V_X12_place
      refine r_pl2 hX.1 hW.2.2.1 m1 h40 sc (fe Kf) n (by omega) hEn (fun c => by rw [hl] at c; cases c) (fun pl2 t2 e2 hF2 ht2 => ?_)
      rw [hl] at e2; cases e2
      have et : t2 = t := by
        have : ∀ m e a b, FrAt hp m e a → FrAt hp m e b → a = b := by
          intro m
          induction m with
          | zero => intro e a b h1 h2; have h1 : e = a + 1 := h1; have h2 : e = b + 1 := h2; omega
          | succ m ih =>
            intro e a b h1 h2
            obtain ⟨u1, v1, w1, z1, f1, f2, f3⟩ := h1
            obtain ⟨u2, v2, w2, z2, g1, g2, g3⟩ := h2
            have : u1 = u2 := by omega
            subst this
            rw [f2] at g2; cases g2
            exact ih _ _ _ f3 g3
        exact this _ _ _ _ hF2 hF
      subst et
      refine ⟨fun _ => ?_, fun c => absurd (nI_le (a := 0) (Nat.zero_le _) (by omega)) c⟩
      unfold V_X12_evaluate_89
      rw [nI_clamp (by omega), frm_fld m1.2.2.2.2.1 ht ho hj]
      refine ⟨fun _ => ⟨vp_in_nI (by omega) (by decide), eqI ⟨fun _ => kk _ k ⟨MW_us m1 (by decide) (by decide) (by decide), MK_us m2 (by decide) (by decide) (by decide) (by decide), rfl, m5⟩, fun c => absurd c (by decide)⟩⟩, fun c => absurd (nI_le (a := 0) (Nat.zero_le _) (by omega)) c⟩
  | none =>
    obtain ⟨c1, c2⟩ := kn hl
    cases hsv : sv s with
    | some v =>
      have hVV := hW.1 s v hss hsv
      refine ⟨((1, p + 3, v), Kf, sv, rc, hp, out, inp, cnU cn 2 (nI (st0 + 1))), ⟨hW, CtK_st hCt hs hst (by omega) rfl, hVV, sc, ?_⟩, muR _, ?_, ?_⟩
      · rw [← c3]; exact Cn_mono Kf q D 1 sc hD1 hK
      · intro G post n i hG hn2 hi2 kk
        obtain ⟨φ, b, lo, hi, hG⟩ := hG
        obtain ⟨n, rfl⟩ : ∃ n', n = n' + 2 := ⟨n - 2, by omega⟩
        refine i_step (n := n + 1) hX hG (by omega) hs hst (by omega) c0 (fun G1 h1 => ?_)
        exact i_own (n := n) hX h1 (by omega) hu (by omega) c1 c2 hss hsv hVV (by rw [List.length_map]; omega) (fun G2 h2 => kk G2 n (i + 1 + 1) ⟨φ, b, lo, hi, h2⟩ (by omega) (by omega))
      · intro g k post n hR hn2 kk
        obtain ⟨hM, hK2, h14, h15, h17⟩ := hR
        refine r_run0 hK2.2.2.2.2.2 h17 (r_eval hM hK2 h14 h15 hs hst hvo (fun c => absurd rfl c) (fun _ g1 m1 m2 m3 m4 m5 => ?_) (fun c => absurd c (show ¬ 3 = 4 by decide)))
        unfold V_X12_place
        refine r_pl2 hX.1 hW.2.2.1 m1 h40 sc (fe Kf) n (by omega) hEn (fun _ => ?_) (fun pl2 t2 e2 => by rw [hl] at e2; cases e2)
        obtain ⟨f1, f2⟩ := (m1.2.2.1.2.1 s hss).2.2.2 v hsv
        refine ⟨fun c => absurd c (by decide), fun _ => ?_⟩
        rw [m3]
        refine r_load (v := vsym s) hvo ?_
        rw [show (nI (vld (vsym s))).toNatClampNeg = s from nI_clamp (n := s) (by omega), f1]
        refine ⟨vp_in_nI (n := s) (by omega) (by decide), fun _ => ?_, fun c => absurd c (by decide)⟩
        unfold V_X12_evaluate_89
        refine ⟨fun c => absurd c (by decide), fun _ => ?_⟩
        rw [m3]
        refine r_load (v := vsym s) hvo ?_
        rw [show (nI (vld (vsym s))).toNatClampNeg = s from nI_clamp (n := s) (by omega), f2]
        exact ⟨vp_in_nI (n := s) (by omega) (by decide), eqI ⟨fun _ => kk _ k ⟨MW_us m1 (by decide) (by decide) (by decide), MK_us m2 (by decide) (by decide) (by decide) (by decide), rfl, m5⟩, fun c => absurd c (by decide)⟩⟩
    | none =>
      refine ⟨((5, 0, none), [], sv, rc, hp, out, inp, cnU cn 2 (nI (st0 + 1))), ⟨hW, by decide, by decide⟩, ?_, ?_, ?_⟩
      · show 0 < _ + Kf.length + 1
        omega
      · intro G post n i hG hn2 hi2 kk
        obtain ⟨φ, b, lo, hi, hG⟩ := hG
        obtain ⟨n, rfl⟩ : ∃ n', n = n' + 2 := ⟨n - 2, by omega⟩
        refine i_step (n := n + 1) hX hG (by omega) hs hst (by omega) c0 (fun G1 h1 => ?_)
        exact i_ownX (n := n) hX h1 (by omega) (by omega) c1 c2 hss hsv ⟨by rw [List.length_map]; omega, l3, l4⟩ (fun G2 h2 => kk G2 n (i + 1 + 1) ⟨φ, b, lo, hi, h2⟩ (by omega) (by omega))
      · intro g k post n hR hn2 kk
        obtain ⟨hM, hK2, h14, h15, h17⟩ := hR
        refine r_run0 hK2.2.2.2.2.2 h17 (r_eval hM hK2 h14 h15 hs hst hvo (fun c => absurd rfl c) (fun _ g1 m1 m2 m3 m4 m5 => ?_) (fun c => absurd c (show ¬ 3 = 4 by decide)))
        unfold V_X12_place
        refine r_pl2 hX.1 hW.2.2.1 m1 h40 sc (fe Kf) n (by omega) hEn (fun _ => ?_) (fun pl2 t2 e2 => by rw [hl] at e2; cases e2)
        have f1 := (m1.2.2.1.2.1 s hss).2.2.1 hsv
        refine ⟨fun c => absurd c (by decide), fun _ => ?_⟩
        rw [m3]
        refine r_load (v := vsym s) hvo ?_
        rw [show (nI (vld (vsym s))).toNatClampNeg = s from nI_clamp (n := s) (by omega), f1]
        refine ⟨vp_in_nI (n := s) (by omega) (by decide), fun c => absurd rfl c, fun _ => eqI ?_⟩
        unfold V_X12_evaluate_89
        refine ⟨fun c => absurd c (by decide), fun _ => ?_⟩
        rw [show (us g1 18 3) 0 14 = enc (vsym s) from m3]
        refine r_load (v := vsym s) hvo ⟨vp_in_nI (n := s) (by omega) (by decide), eqI ⟨fun _ => kk _ k ⟨MW_us (MW_us m1 (by decide) (by decide) (by decide)) (by decide) (by decide) (by decide), rfl⟩, fun c => absurd c (by decide)⟩⟩
theorem s_set {K : List Fr} {i st e q p : Nat} {rest : List Nat} {vs : List Va} {v : Va} (hX : XC x G0 N) (h : PA x ((1, p, v), (4, i, rest, st, e, q, vs) :: K, sv, rc, hp, out, inp, cn)) : Stq x G0 N cv cf ((1, p, v), (4, i, rest, st, e, q, vs) :: K, sv, rc, hp, out, inp, cn) := by
  obtain ⟨hW, hCt, hv, ⟨sc0, hK0⟩, D, p1, sc, h1, h2, h3, h4, h5, h6, h7, h8, h9, h10, h11⟩ := rtF h
  obtain ⟨st0, e0, hst0, ecl, hn⟩ := CtK_lim hCt
  obtain ⟨l1, l2, l3, l4⟩ := Cn_LB hK0 (Nat.le_refl _) hn
  have l1 : K.length + 1 ≤ 372 := l1
  have htp := hX.1.2.2.2.2.2.2
  have hrn := hX.1.2.2.2.2.2.1
  have hlt := AtE_lt (rc := x.r0) (nam := x.nam) (K := x.K) (C := x.C) (c := x.c) (ent := x.ent) D sc
  have hCr := hW.2.2.1
  have askOK : ∀ y, x.C y → vok (x.r0 y).1 ∧ ∀ s, (x.r0 y).1 = vsym s → s < x.sy := fun y hy => ⟨by rw [← hCr y hy]; exact (hW.2.2.2.1 y (hX.1.2.2.2.1 y hy).1).1, (hX.1.2.2.2.1 y hy).2.1⟩
  have hin : ∀ z ∈ rest, z < 1100 := fun z hz => by have := (hX.1.2.2.2.1 z (h2.2 z hz)).1; omega
  have hK := h11 (by decide)
  obtain ⟨rfl, rfl, a, b9, s, hi, hL, haC, hsa, h40, eq, ks, kn⟩ := id h9
  have l2 : (cvl K).length ≤ 1488 := l2
  have l3 : (ccl K).length ≤ 60 := l3
  have hir := (hX.1.2.2.2.1 i hi).1
  have hax := hX.1.2.2.2.1 a haC
  have hss := hax.2.1 s hsa
  have hu := hW.2.2.2.2.2.2.1
  have hEn := Cn_env K q _ sc hK
  have hy := hX.1.2.2.1.2.1
  have refGo : ∀ (g : St) (k : StL) (post : St → StL → Prop) (n : Nat), 20000 ≤ n → MW x cv cf sv rc hp out inp cn g k → MK ((4, i, [], st, e, q, []) :: K) g → g 0 16 = enc v → (loc sc s = none → ∀ g1, g1 = up (up g 3 s (enc v)) 2 s 1 → V_X12_pop (enc v) g1 k post) → (∀ pl t, loc sc s = some pl → FrAt hp (pl / 4) (fe K) t → t < 168 → ∀ g1, g1 = up g 10 (8 * t + 2 + pl % 4) (enc v) → V_X12_pop (enc v) g1 k post) → V_X12_resume_33 post n (nI (opR 4)) (if ([] : List Nat) = [] then 1 else 0) g k := by
    intro g k post n hn hM hK2 h16 k0 k1
    have t1 := top1 hK2.1
    have ec : (nI K.length).toNatClampNeg = K.length := nI_clamp (by omega)
    have vi : vp_in (nI K.length) 1002 := vp_in_nI (by omega) (by decide)
    have e16 : g 16 K.length = enc (vrd i 0) := hK2.2.2.2.1.2.1 (Or.inl rfl)
    have e19 : g 19 K.length = nI (fe K) := hK2.2.2.2.1.2.2.2.2.1
    unfold V_X12_resume_33
    refine ⟨fun c => absurd c (by decide), fun c => absurd c (by decide), fun _ => ?_, fun c => absurd c (by decide), fun c => absurd c (by decide), fun c => absurd c (by decide), fun c1 c2 c3 c4 c6 c32 => absurd rfl c3⟩
    unfold V_X12_assign
    rw [t1, ec, e16]
    refine ⟨vi, r_cdr1 hM.2.2.2.1 hir (by omega) (by decide) ?_⟩
    rw [hCr i hi, enc_hdl hL]
    refine r_car1 hM.2.2.2.1 (i := a) (c := 0) hax.1 (by omega) (by decide) ?_
    rw [hCr a haC, hsa, t1, ec, e19]
    refine ⟨vi, ?_⟩
    unfold V_X12_place
    refine r_pl2 hX.1 hCr hM h40 sc (fe K) n (by omega) hEn (fun el => ⟨fun _ => ?_, fun c => absurd (by decide) c⟩) (fun pl t el hF ht => ⟨fun c => absurd c (nI_pos (by omega)), fun _ => ?_⟩)
    · refine r_load (v := vsym s) h40 ?_
      rw [show (nI (vld (vsym s))).toNatClampNeg = s from nI_clamp (n := s) (by omega), h16]
      refine ⟨vp_in_nI (n := s) (by omega) (by decide), eqI (r_load (v := vsym s) h40 ?_)⟩
      rw [show (nI (vld (vsym s))).toNatClampNeg = s from nI_clamp (n := s) (by omega)]
      refine ⟨vp_in_nI (n := s) (by omega) (by decide), eqI ?_⟩
      have e1 : (up (up g 3 s (enc v)) 2 s (vp_nar .boolean 1)) 0 16 = enc v := h16
      rw [e1]
      exact k0 el _ rfl
    · rw [nI_clamp (by omega), h16]
      refine ⟨vp_in_nI (by omega) (by decide), eqI ?_⟩
      have e1 : (up g 10 (8 * t + 2 + pl % 4) (enc v)) 0 16 = enc v := h16
      rw [e1]
      exact k1 pl t el hF ht _ rfl
  cases hl : loc sc s with
  | none =>
    obtain ⟨c1, c2⟩ := kn hl
    refine ⟨((1, q, v), K, svU sv s v, rc, hp, out, inp, cn), ⟨PW_sv hW hv, CtK_pop hCt (Nat.le_refl _), hv, sc, Cn_mono K q _ 1 sc (by omega) hK⟩, ?_, ?_, ?_⟩
    · show _ + K.length + 2 < _ + (K.length + 1) + 2
      omega
    · intro G post n i2 hG hn2 hi2 kk
      obtain ⟨φ, b, lo, hi, hG⟩ := hG
      obtain ⟨n, rfl⟩ : ∃ n', n = n' + 12 := ⟨n - 12, by omega⟩
      refine i_chain 12 p p1 n i2 G hX h7 hG (by omega) (fun G1 m i3 g1 b1 b2 => ?_)
      obtain ⟨m, rfl⟩ : ∃ n', m = n' + 1 := ⟨m - 1, by omega⟩
      exact i_setown (n := m) (v := v) hX g1 (by omega) rfl (by omega) c1 c2 hss (by show ((cvl K).map gv).length + 1 ≤ 1550; rw [List.length_map]; omega) (fun G2 g2 => kk G2 m (i3 + 1) ⟨φ, b, lo, hi, by rw [eq]; exact g2⟩ (by omega) (by omega))
    · intro g k post n hR hn2 kk
      obtain ⟨hM, hK2, h16, h17⟩ := hR
      refine r_run1 hK2.2.2.2.2.2 h17 hK2.1 (by omega) (r_res hK2 (by omega) hin (refGo g k _ n hn2 hM hK2 h16 (fun _ g1 e1 => ?_) (fun pl t el => by rw [hl] at el; cases el)))
      subst e1
      have hM1 : MW x cv cf (svU sv s v) rc hp out inp cn (up (up g 3 s (enc v)) 2 s 1) k := by
        obtain ⟨a1, a2, a3, a4⟩ := hM
        exact ⟨a1, a2, SymM_set a3 hss, a4⟩
      obtain ⟨b1, b2, b3, b4, b5, b6⟩ := hK2
      have hK3 : MK ((4, i, [], st, e, q, []) :: K) (up (up g 3 s (enc v)) 2 s 1) := ⟨b1, b2, b3, FrM_fr _ (fun c c1 c2 t ht => by rw [upB _ _ _ (by omega), upB _ _ _ (by omega)]) b4, VlM_fr (fun t ht => rfl) b5, b6⟩
      exact r_pop hM1 hK3 (by omega) (by decide) (fun g3 s1 s2 s3 s4 s5 => kk g3 k ⟨s1, s2, s3, s4⟩)
  | some pl =>
    obtain ⟨c1, c2⟩ := ks pl hl
    obtain ⟨t, p9, q9, l9, hF, ho, hj, ht, hpl⟩ := loc_at sc (fe K) s pl hEn hl
    have hk : skd (ofrm p9 q9 l9) (ofrm p9 q9 (l9.set (pl % 4) v)) := ⟨rfl, rfl, List.length_set⟩
    have hO := (hW.2.2.2.2.2.1 t _ ho).2
    have hW1 : PW x sv rc (hset hp t (ofrm p9 q9 (l9.set (pl % 4) v))) out inp := by
      refine PW_set hW ho hk (by show (l9.set (pl % 4) v).length + 2 = l9.length + 2; rw [List.length_set]) ?_
      obtain ⟨o1, o2, ps, sc9, o3, o4, o5, o6⟩ := hO
      refine ⟨by rw [List.length_set]; exact o1, fun w hw => ?_, ps, sc9, o3, by rw [List.length_set]; exact o4, EnvR_set ho hk o5, o6⟩
      rcases List.mem_or_eq_of_mem_set hw with hw | hw
      · exact VV_set ho hk (o2 w hw)
      · rw [hw]; exact VV_set ho hk hv
    refine ⟨((1, q, v), K, sv, rc, hset hp t (ofrm p9 q9 (l9.set (pl % 4) v)), out, inp, cn), ⟨hW1, CtK_pop hCt (Nat.le_refl _), VV_set ho hk hv, sc, Cn_set ho hk (Cn_mono K q _ 1 sc (by omega) hK)⟩, ?_, ?_, ?_⟩
    · show _ + K.length + 2 < _ + (K.length + 1) + 2
      omega
    · intro G post n i2 hG hn2 hi2 kk
      obtain ⟨φ, b, lo, hi, hG⟩ := hG
      obtain ⟨n, rfl⟩ : ∃ n', n = n' + 12 := ⟨n - 12, by omega⟩
      refine i_chain 12 p p1 n i2 G hX h7 hG (by omega) (fun G1 m i3 g1 b1 b2 => ?_)
      obtain ⟨m, rfl⟩ : ∃ n', m = n' + 1 := ⟨m - 1, by omega⟩
      exact i_setloc (n := m) (Kf := K) (v := v) (pl := pl) hX hu g1 (by omega) rfl (by omega) c1 c2 (by omega) (by omega) l3 hF ht ho hj (by show ((cvl K).map gv).length + 1 ≤ 1550; rw [List.length_map]; omega) (fun G2 g2 => kk G2 m (i3 + 1) ⟨φ, b, lo, hi, by rw [eq]; exact g2⟩ (by omega) (by omega))
    · intro g k post n hR hn2 kk
      obtain ⟨hM, hK2, h16, h17⟩ := hR
      refine r_run1 hK2.2.2.2.2.2 h17 hK2.1 (by omega) (r_res hK2 (by omega) hin (refGo g k _ n hn2 hM hK2 h16 (fun el => by rw [hl] at el; cases el) (fun pl2 t2 el hF2 ht2 g1 e1 => ?_)))
      rw [hl] at el; cases el
      have et : t2 = t := by
        have : ∀ m e a b, FrAt hp m e a → FrAt hp m e b → a = b := by
          intro m
          induction m with
          | zero => intro e a b h1 h2; have h1 : e = a + 1 := h1; have h2 : e = b + 1 := h2; omega
          | succ m ih =>
            intro e a b h1 h2
            obtain ⟨u1, v1, w1, z1, f1, f2, f3⟩ := h1
            obtain ⟨u2, v2, w2, z2, g1, g2, g3⟩ := h2
            have : u1 = u2 := by omega
            subst this
            rw [f2] at g2; cases g2
            exact ih _ _ _ f3 g3
        exact this _ _ _ _ hF2 hF
      subst et
      subst e1
      have hM1 : MW x cv cf sv rc (hset hp t2 (ofrm p9 q9 (l9.set (pl % 4) v))) out inp cn (up g 10 (8 * t2 + 2 + pl % 4) (enc v)) k := by
        obtain ⟨a1, a2, a3, a4, a5, a6, a7⟩ := hM
        have hus : usum (hset hp t2 (ofrm p9 q9 (l9.set (pl % 4) v))) 168 = usum hp 168 := by
          have h1 := usum_set (hp := hp) (s := t2) (o := ofrm p9 q9 (l9.set (pl % 4) v)) ht
          have e : olo hp t2 = olen (ofrm p9 q9 l9) := by unfold olo; rw [ho]
          have e2 : olen (ofrm p9 q9 (l9.set (pl % 4) v)) = olen (ofrm p9 q9 l9) := by show (l9.set (pl % 4) v).length + 2 = l9.length + 2; rw [List.length_set]
          omega
        refine ⟨a1, a2, a3, a4, ?_, by rw [hus]; exact a6, a7⟩
        rw [show 8 * t2 + 2 + pl % 4 = 8 * t2 + (2 + pl % 4) by omega]
        refine HpM_upd a5 (PW_olen hW) ho ht (by show 2 + pl % 4 < (nI p9 :: enc q9 :: l9.map enc).length; simp; omega) rfl (by show (l9.set (pl % 4) v).length + 2 = l9.length + 2; rw [List.length_set]) ?_
        show nI p9 :: enc q9 :: (l9.set (pl % 4) v).map enc = (nI p9 :: enc q9 :: l9.map enc).set (2 + pl % 4) (enc v)
        rw [show 2 + pl % 4 = (pl % 4) + 1 + 1 by omega, List.set_cons_succ, List.set_cons_succ, List.map_set]
      obtain ⟨b1, b2, b3, b4, b5, b6⟩ := hK2
      have hK3 : MK ((4, i, [], st, e, q, []) :: K) (up g 10 (8 * t2 + 2 + pl % 4) (enc v)) := ⟨b1, b2, b3, FrM_fr _ (fun c c1 c2 t ht => by rw [upB _ _ _ (by omega)]) b4, VlM_fr (fun t ht => rfl) b5, b6⟩
      exact r_pop hM1 hK3 (by omega) (by decide) (fun g3 s1 s2 s3 s4 s5 => kk g3 k ⟨s1, s2, s3, s4⟩)
end AS
