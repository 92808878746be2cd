-- ===== an operator without parts =====
section NP
variable {x : Cx} {G0 G : SG} {N : Nat} {φ : Nat → Nat} {b lo hi : Nat} {sv : Nat → Option Va} {rc : Nat → Va × Va} {hp : Nat → Option Ob} {out : List Nat} {inp : List Int} {cn : Nat → Int32} {LV LC LK : List Gw} {p n i : Nat} {post : Int32 → SG → Prop}
theorem CG5 {u : St} {inp1 : List Int} (h : CG x G0 φ b lo hi sv rc hp out inp cn LV LC LK p G) (hu : QuR 8 u (inp1.map iI)) : CG x G0 φ b lo hi sv rc hp out inp1 cn LV LC LK p (uo G 5 u) := by
  obtain ⟨⟨a1, a2, a3, a4, a5, a6, a7, a8, a9, a10, a11, a12, a13, a14, a15, a16⟩, b1, b2, b3, b4, b5, b6⟩ := h
  exact ⟨⟨a1, a2, a3, a4, a5, a6, a7, a8, hu, a10, a11, a12, a13, fun o ho => (uoN (by omega)).trans (a14 o ho), a15, a16⟩, b1, b2, b3, b4, b5, b6⟩
theorem CG6 {u : St} {out1 : List Nat} (h : CG x G0 φ b lo hi sv rc hp out inp cn LV LC LK p G) (hu : QuR 200 u (out1.map nI)) : CG x G0 φ b lo hi sv rc hp out1 inp cn LV LC LK p (uo G 6 u) := by
  obtain ⟨⟨a1, a2, a3, a4, a5, a6, a7, a8, a9, a10, a11, a12, a13, a14, a15, a16⟩, b1, b2, b3, b4, b5, b6⟩ := h
  exact ⟨⟨a1, a2, a3, a4, a5, a6, a7, hu, a9, a10, a11, a12, a13, fun o ho => (uoN (by omega)).trans (a14 o ho), a15, a16⟩, b1, b2, b3, b4, b5, b6⟩
theorem c_get {a : Int} {l : List Int} {R : Int32 → SG → Prop} (hi16 : -32768 ≤ a ∧ a ≤ 32767) (h : CG x G0 φ b lo hi sv rc hp out (a :: l) cn LV LC LK p G) (k : ∀ G1, CG x G0 φ b lo hi sv rc hp out l cn LV LC LK p G1 → G1 4 = G 4 → R (cw φ (vnum a)) G1) : AnsB N n 31 0 1 1 G R := by
  have hq : QuR 8 (G 5) (iI a :: l.map iI) := h.1.2.2.2.2.2.2.2.2.1
  have e51 : G 5 0 1 = nI (l.length + 1) := by
    obtain ⟨o, -, -, e, -⟩ := hq
    rw [e]; simp
  have hl8 : l.length + 1 ≤ 8 := by
    obtain ⟨o, -, -, -, e, -⟩ := hq
    simpa using e
  unfold AnsB
  refine ⟨by decide, vp_in_nI (n := 31) (by decide) (by decide), eqI ⟨fun c => absurd c (by decide), fun c => absurd c (by decide), fun c => absurd c (by decide), fun c => absurd c (by decide), fun c => absurd c (by decide), fun c => absurd c (by decide), fun c => absurd c (by decide), fun c => absurd c (by decide), fun c => absurd c (by decide), fun c => absurd c (by decide), fun c => absurd c (by decide), fun c => absurd c (by decide), fun c => absurd c (by decide), fun _ => ?_, fun c10 c11 c12 c13 c14 c15 c16 c17 c18 c19 c20 c21 c22 c23 => absurd rfl c23⟩⟩
  refine ⟨fun _ => v_rem (by decide) hq (fun u hu => eqI (v_of (t := 2) (by decide) (k _ (CG5 h hu) rfl))), fun c => ?_⟩
  rw [e51] at c
  exact absurd ((nI_eq (b := 0) (by omega) (by decide)).mp c) (by omega)
theorem c_get0 {R : Int32 → SG → Prop} (h : CG x G0 φ b lo hi sv rc hp out [] cn LV LC LK p G) (k : R 1 G) : AnsB N n 31 0 1 1 G R := by
  have hq : QuR 8 (G 5) [] := h.1.2.2.2.2.2.2.2.2.1
  have e51 : G 5 0 1 = 0 := by
    obtain ⟨o, -, -, e, -⟩ := hq
    rw [e]; rfl
  unfold AnsB
  refine ⟨by decide, vp_in_nI (n := 31) (by decide) (by decide), eqI ⟨fun c => absurd c (by decide), fun c => absurd c (by decide), fun c => absurd c (by decide), fun c => absurd c (by decide), fun c => absurd c (by decide), fun c => absurd c (by decide), fun c => absurd c (by decide), fun c => absurd c (by decide), fun c => absurd c (by decide), fun c => absurd c (by decide), fun c => absurd c (by decide), fun c => absurd c (by decide), fun c => absurd c (by decide), fun _ => ?_, fun c10 c11 c12 c13 c14 c15 c16 c17 c18 c19 c20 c21 c22 c23 => absurd rfl c23⟩⟩
  exact ⟨fun c => absurd e51 c, fun _ => k⟩
end NP
section NR
variable {x : Cx} {G0 : SG} {N : Nat} {cv cf : Int32} {sv : Nat → Option Va} {rc : Nat → Va × Va} {hp : Nat → Option Ob} {out : List Nat} {inp : List Int} {cn : Nat → Int32}
theorem MW_io {g g1 : St} {k : StL} {out1 : List Nat} {inp1 : List Int} (h : MW x cv cf sv rc hp out inp cn g k) (h1 : ∀ c, c ≠ 0 → c < 15 → g1 c = g c) (h2 : ∀ j, j < 24 → j ≠ 12 → j ≠ 13 → j ≠ 14 → g1 0 j = g 0 j) (ho : g1 0 24 = nI out1.length ∧ ∀ i, i < out1.length → g1 23 i = nI (out1.getD i 0)) (hi : g1 0 25 = nI inp1.length ∧ ∀ i, i < inp1.length → g1 24 i = iI (inp1.getD i 0)) : MW x cv cf sv rc hp out1 inp1 cn g1 k := by
  obtain ⟨a1, a2, a3, a4, a5, a6, a7, a8, a9, a10, a11, a12, a13, a14, a15, a16, a17⟩ := h
  have g2 : ∀ j, j < 12 ∨ (15 ≤ j ∧ j < 24) → g1 0 j = g 0 j := fun j hj => h2 j (by omega) (by omega) (by omega) (by omega)
  refine ⟨(g2 1 (by omega)).trans a1, fun i hi => ?_, ?_, ?_, fun s hs => ?_, (g2 4 (by omega)).trans a6, (g2 7 (by omega)).trans a7, (g2 8 (by omega)).trans a8, ho, hi, (g2 5 (by omega)).trans a11, (g2 6 (by omega)).trans a12, (g2 19 (by omega)).trans a13, (g2 21 (by omega)).trans a14, (g2 22 (by omega)).trans a15, (g2 23 (by omega)).trans a16, (g2 0 (by omega)).trans a17⟩
  · rw [h1 4 (by decide) (by omega), h1 5 (by decide) (by omega)]; exact a2 i hi
  · rw [g2 2 (by omega), h1 1 (by decide) (by omega), h1 2 (by decide) (by omega), h1 3 (by decide) (by omega)]; exact a3
  · refine ⟨(g2 3 (by omega)).trans a4.1, fun i hi => ?_⟩
    rw [h1 6 (by decide) (by omega), h1 7 (by decide) (by omega)]; exact a4.2 i hi
  · rw [h1 8 (by decide) (by omega), h1 9 (by decide) (by omega), h1 10 (by decide) (by omega)]; exact a5 s hs
def GtI (g0 : St) (j : Nat) (g : St) : Prop := (∀ c, c ≠ 24 → g c = g0 c) ∧ (∀ t, t < j → g 24 t = g0 24 (t + 1)) ∧ ∀ t, j ≤ t → g 24 t = g0 24 t
theorem r_get29 {g0 : St} {k : StL} {L : Nat} {a : Int} {post : Int32 → St → StL → Prop} (ha : -32768 ≤ a ∧ a ≤ 32767) (hL : L < 8) (h25 : g0 0 25 = nI L) (kk : ∀ g, GtI g0 L g → post (enc (vnum a)) g k) : ∀ (m j n : Nat) (g : St), j + m = L → m < n → GtI g0 j g → V_X12_get_29 post n (iI a) (nI j) g k
  | 0, j, n, g, hj, hn, hI => by
    obtain ⟨n, rfl⟩ : ∃ n', n = n' + 1 := ⟨n - 1, by omega⟩
    have e : j = L := by omega
    subst e
    have e25 : g 0 25 = nI j := by rw [hI.1 0 (by decide)]; exact h25
    unfold V_X12_get_29
    rw [e25]
    exact ⟨fun _ => r_numeral ha.1 ha.2 (kk g hI), fun c => absurd (Int32.le_refl _) c⟩
  | m + 1, j, n, g, hj, hn, hI => by
    obtain ⟨n, rfl⟩ : ∃ n', n = n' + 1 := ⟨n - 1, by omega⟩
    have e25 : g 0 25 = nI L := by rw [hI.1 0 (by decide)]; exact h25
    unfold V_X12_get_29
    rw [e25, nI_1, nI_clamp (by omega), nI_clamp (by omega)]
    refine ⟨fun c => absurd ((nI_leI (by omega) (by omega)).mp c) (by omega), fun _ => ⟨vp_in_nI (by omega) (by decide), vp_in_nI (by omega) (by decide), eqI (eqI (r_get29 ha hL h25 kk m (j + 1) n _ (by omega) (by omega) ?_))⟩⟩
    obtain ⟨i1, i2, i3⟩ := hI
    refine ⟨fun c hc => by rw [upB _ _ _ hc]; exact i1 c hc, fun t ht => ?_, fun t ht => ?_⟩
    · show upd (g 24) j _ t = _
      by_cases e : t = j
      · subst e; rw [updE]; exact i3 (t + 1) (by omega)
      · rw [updN _ _ (by omega)]; exact i2 t (by omega)
    · show upd (g 24) j _ t = _
      rw [updN _ _ (by omega)]; exact i3 t (by omega)
theorem a_none {Kf : List Fr} {i c p st d q op : Nat} {sc : List (List Nat)} {w : Va} {inp1 : List Int} (hX : XC x G0 N) (hW : PW x sv rc hp out inp) (hCt : CtK 0 Kf cn) (hA : AkL x hp Kf p i c d q op sc []) (hs : cn 2 = nI st) (hst : st < 1000) (hop : op = 14 ∨ op = 31) (hW1 : PW x sv rc hp out inp1) (hw : VV x.K x.C hp w)
    (hC : ∀ (φ : Nat → Nat) (b lo hi : Nat) (G : SG) (n p2 : Nat) (R : Int32 → SG → Prop), CG x G0 φ b lo hi sv rc hp out inp (cnU cn 2 (nI (st + 1))) ((cvl Kf).map gv) (ccl Kf) (cat Kf) p2 G → G 4 0 3 = 0 → 10000 ≤ n → (∀ G1, CG x G0 φ b lo hi sv rc hp out inp1 (cnU cn 2 (nI (st + 1))) ((cvl Kf).map gv) (ccl Kf) (cat Kf) p2 G1 → G1 4 0 3 = 0 → R (gw φ (gv w)) G1) → AnsB N n op 0 1 1 G R)
    (hR : ∀ (g : St) (k : StL) (n : Nat) (R : Int32 → St → StL → Prop), MW x cv cf sv rc hp out inp (cnU cn 2 (nI (st + 1))) g k → MK ((op, i, [], 0, 0, q, []) :: Kf) g → 20000 ≤ n → (∀ g1, MW x cv cf sv rc hp out inp1 (cnU cn 2 (nI (st + 1))) g1 k → MK ((op, i, [], 0, 0, q, []) :: Kf) g1 → R (enc w) g1 k) → RefO n op (allv Kf).length g k R) : Stq x G0 N cv cf ((0, p, vrd i c), Kf, sv, rc, hp, out, inp, cn) := by
  obtain ⟨hi, hvo, hl, hlC, hop1, hop32, hc, hpq, hq, hD, hK, hO⟩ := hA
  obtain ⟨st0, e0, hst0, ecl, hn⟩ := CtK_lim hCt
  have e9 : st0 = st := (nI_eq (by omega) (by omega)).mp (e0.symm.trans hs)
  subst e9
  obtain ⟨l1, l2, l3, l4⟩ := Cn_LB hK (by omega) hn
  have htp := hX.1.2.2.2.2.2.2
  have hCr := hW.2.2.1
  have hlv : (allv Kf).length ≤ 1000 := by
    obtain ⟨st9, dp9, -, -, b3, -, b5, -⟩ := hCt
    omega
  obtain ⟨o, rfl⟩ : ∃ o, op = o + 9 := ⟨op - 9, by omega⟩
  obtain ⟨p1, f1, f2, f3, hL, c1, c2, c3, e⟩ := hO
  have hL : p + 1 = p1 := hL
  subst hL
  refine ⟨((1, q, w), Kf, sv, rc, hp, out, inp1, cnU cn 2 (nI (st0 + 1))), ⟨hW1, CtK_st hCt hs hst (by omega) rfl, hw, sc, Cn_mono Kf q _ 1 sc (by omega) hK⟩, ?_, ?_, ?_⟩
  · show 3 * (1001 - (cnU cn 2 (nI (st0 + 1)) 2).toNatClampNeg) + Kf.length + 2 < 3 * (1001 - (cn 2).toNatClampNeg) + Kf.length + 1
    rw [cnU_at, nI_clamp (by omega), ecl]; omega
  · intro G post n i2 hG hn2 hi2 kk
    obtain ⟨φ, b, lo, hi, hG⟩ := hG
    obtain ⟨n, rfl⟩ : ∃ n', n = n' + 2 := ⟨n - 2, by omega⟩
    refine i_step (n := n + 1) hX hG (by omega) hs hst (by omega) hc (fun G1 h1 => ?_)
    refine i_app (n := n) (op := o + 9) (m := 0) hX h1 (by omega) (by omega) hop32 c1 c2 c3 (fun G2 g2 w2 => ?_)
    refine c_ans0 g2.2.1 (by rw [List.length_map]; omega) (hC φ b lo hi G2 n _ _ g2 w2 (by omega) (fun G3 g3 w3 => ?_))
    exact c_settle (y := gv w) (L0 := []) (m := 0) g3 w3 rfl (by rw [List.nil_append, List.length_map]; omega) (by rw [List.length_map]; omega) (fun G4 g4 w4 => af0 w4 (kk G4 n (i2 + 1 + 1) ⟨φ, b, lo, hi, by rw [e]; exact g4⟩ (by omega) (by omega)))
  · intro g k post n hR2 hn2 kk
    obtain ⟨hM, hK2, h14, h15, h17⟩ := hR2
    refine r_run0 hK2.2.2.2.2.2 h17 (r_list hX.1 hCr hM hK2 h14 h15 hs hst hvo hi hop1 (fun g1 m1 m2 m3 m4 m5 => ?_))
    refine r_beg (e := 0) (q := q) hX.1 m1 hCr m2 m3 m4 hi hl hlC hop32 (by omega) (by omega) (fun e => absurd e (by omega)) (by omega) (fun c => absurd rfl (by rw [if_neg (by omega)] at c; exact c)) (fun _ _ g2 p1 p2 => ?_)
    have fin : V_X12_apply n (nI (opR (o + 9))) g2 k (fun g_2 k_3 => V_X12_run_69 post n g_2 k_3) := by
      refine r_apply (by omega) hop32 p2 (by omega) (by omega) (hR g2 k n _ p1 p2 hn2 (fun g3 q1 q2 => ⟨fun c => absurd q2.2.2.2.2.2 c, fun _ => ?_⟩))
      exact r_pop q1 q2 (by omega) (by omega) (fun g4 s1 s2 s3 s4 s5 => kk g4 k ⟨s1, s2, s3, s4⟩)
    unfold V_X12_nothing
    rcases hop with h14 | h31
    · have : o = 5 := by omega
      subst this
      exact ⟨fun _ => fin, fun c => absurd rfl c⟩
    · have : o = 22 := by omega
      subst this
      exact ⟨fun c => absurd c (by decide), fun _ => ⟨fun c => absurd rfl c, fun _ => fin⟩⟩
/-- (list) -/
theorem a_list0 {Kf : List Fr} {i c p st d q : Nat} {sc : List (List Nat)} (hX : XC x G0 N) (hW : PW x sv rc hp out inp) (hCt : CtK 0 Kf cn) (hA : AkL x hp Kf p i c d q 14 sc []) (hs : cn 2 = nI st) (hst : st < 1000) : Stq x G0 N cv cf ((0, p, vrd i c), Kf, sv, rc, hp, out, inp, cn) := by
  have hu := hW.2.2.2.2.2.2.1
  have hz := hX.1.2.1
  refine a_none (w := vnil) (inp1 := inp) hX hW hCt hA hs hst (Or.inl rfl) hW trivial (fun φ b lo hi G n p2 R hG hw hn kk => ?_) (fun g k n R hM hKM hn kk => ?_)
  · obtain ⟨n, rfl⟩ : ∃ n', n = n' + 1 := ⟨n - 1, by omega⟩
    unfold AnsB
    refine ⟨by decide, vp_in_nI (n := 14) (by decide) (by decide), eqI ⟨fun c => absurd c (by decide), fun c => absurd c (by decide), fun c => absurd c (by decide), fun _ => ?_, fun c => absurd c (by decide), fun c => absurd c (by decide), fun c => absurd c (by decide), fun c => absurd c (by decide), fun c => absurd c (by decide), fun c => absurd c (by decide), fun c => absurd c (by decide), fun c => absurd c (by decide), fun c => absurd c (by decide), fun c => absurd c (by decide), fun c10 c11 c12 c13 c14 c15 c16 c17 c18 c19 c20 c21 c22 c23 => absurd rfl c13⟩⟩
    unfold V_X7_newList
    refine c_roomY (m := 0) hX hG (by decide) (by omega) ⟨fun _ => eqI (eqI ?_), fun c => absurd c (by decide)⟩
    unfold V_X7_newList_16
    refine ⟨fun _ => ?_, fun c => absurd (Int32.le_refl _) c⟩
    have := kk G hG hw
    rw [show gw φ (gv vnil) = 1 from wd_nil] at this
    exact this
  · have hl1 : (allv Kf).length < 1100 := by
      obtain ⟨st9, dp9, -, -, b3, -, b5, -⟩ := hCt
      omega
    have e13 : g 0 13 - nI (allv Kf).length = 0 := by
      rw [hKM.2.1]
      show nI (allv Kf).length - nI (allv Kf).length = 0
      rw [nI_sub (Nat.le_refl _), Nat.sub_self]; rfl
    refine ⟨fun _ => ?_, fun c => absurd c (by decide), fun c => absurd c (by decide)⟩
    obtain ⟨n, rfl⟩ : ∃ n', n = n' + 1 := ⟨n - 1, by omega⟩
    unfold V_X12_lists V_X12_sortOf
    refine ⟨vp_in_nI hl1 (by decide), eqI ⟨fun _ => ⟨fun c => absurd c (by decide), fun _ => ⟨fun c => absurd rfl c, fun _ => ⟨fun _ => ?_, fun c => absurd c (by decide)⟩⟩⟩, fun c => absurd c (by decide)⟩⟩
    rw [e13]
    unfold V_X12_lists_63 V_X12_room
    rw [hM.1, hM.2.2.2.2.2.1, show (2 : Int32) * 0 = nI 0 from rfl, nI_add, Nat.add_zero]
    refine ⟨fun _ => ⟨fun c => absurd ((nI_ltI (by omega) (by omega)).mp c) (by omega), fun _ => ⟨fun _ => ⟨fun _ => eqI (eqI ?_), fun c => absurd c (by decide)⟩, fun c => absurd c (by decide)⟩⟩, fun c => absurd (nI_le hu (by omega)) c⟩
    unfold V_X12_lists_106
    exact ⟨fun _ => kk g hM hKM, fun c => absurd (by decide) c⟩
/-- (get) -/
theorem a_get {Kf : List Fr} {i c p st d q : Nat} {sc : List (List Nat)} (hX : XC x G0 N) (hW : PW x sv rc hp out inp) (hCt : CtK 0 Kf cn) (hA : AkL x hp Kf p i c d q 31 sc []) (hs : cn 2 = nI st) (hst : st < 1000) : Stq x G0 N cv cf ((0, p, vrd i c), Kf, sv, rc, hp, out, inp, cn) := by
  have hl1 : (allv Kf).length < 1100 := by
    obtain ⟨st9, dp9, -, -, b3, -, b5, -⟩ := hCt
    omega
  have pre : ∀ (g : St) (k : StL) (n : Nat) (R : Int32 → St → StL → Prop), V_X12_get n g k (fun r g1 k1 => R r g1 k1) → RefO n 31 (allv Kf).length g k R := fun g k n R k1 => by
    refine ⟨fun c => absurd c (by decide), fun _ c => absurd c (by decide), fun _ => ?_⟩
    unfold V_X12_others
    exact ⟨vp_in_nI hl1 (by decide), eqI ⟨fun _ => ⟨fun _ => ⟨fun c => absurd rfl c, fun _ => k1⟩, fun c => absurd c (by decide)⟩, fun c => absurd c (by decide)⟩⟩
  obtain ⟨w1, w2, w3, w4, w5, w6, w7, w8, w9, w10⟩ := id hW
  cases inp with
  | nil =>
    refine a_none (w := vnil) (inp1 := []) hX hW hCt hA hs hst (Or.inr rfl) hW trivial (fun φ b lo hi G n p2 R hG hw hn kk => ?_) (fun g k n R hM hKM hn kk => pre g k n R ?_)
    · refine c_get0 hG ?_
      have := kk G hG hw
      rw [show gw φ (gv vnil) = 1 from wd_nil] at this
      exact this
    · have e25 : g 0 25 = 0 := hM.2.2.2.2.2.2.2.2.2.1.1
      unfold V_X12_get
      exact ⟨fun c => absurd e25 c, fun _ => kk g hM hKM⟩
  | cons a l =>
    have ha := w10 a (by simp)
    have w9 : l.length + 1 ≤ 8 := w9
    have hW1 : PW x sv rc hp out l := ⟨w1, w2, w3, w4, w5, w6, w7, w8, by omega, fun y hy => w10 y (by simp [hy])⟩
    refine a_none (w := vnum a) (inp1 := l) hX hW hCt hA hs hst (Or.inr rfl) hW1 ha (fun φ b lo hi G n p2 R hG hw hn kk => c_get ha hG (fun G1 g1 e4 => kk G1 g1 (by rw [e4]; exact hw))) (fun g k n R hM hKM hn kk => pre g k n R ?_)
    have e25 : g 0 25 = nI (l.length + 1) := hM.2.2.2.2.2.2.2.2.2.1.1
    have e24 : ∀ t, t < l.length + 1 → g 24 t = iI ((a :: l).getD t 0) := hM.2.2.2.2.2.2.2.2.2.1.2
    unfold V_X12_get
    refine ⟨fun _ => ⟨vp_in_nI (n := 0) (by decide) (by decide), eqI (eqI (eqI ?_))⟩, fun c => ?_⟩
    · rw [e25, nI_pred, show g 24 (0 : Int32).toNatClampNeg = iI a from e24 0 (by omega)]
      refine r_get29 (g0 := us g 25 (nI l.length)) (L := l.length) ha (by omega) rfl (fun g1 hI => kk g1 ?_ ?_) l.length 0 n _ (by omega) (by omega) ⟨fun c _ => rfl, fun t ht => absurd ht (Nat.not_lt_zero _), fun t _ => rfl⟩
      · obtain ⟨i1, i2, i3⟩ := hI
        have h9 := hM.2.2.2.2.2.2.2.2.1
        refine MW_io hM (fun c hc h => by rw [i1 c (by omega)]; exact usZ hc) (fun j j1 _ _ _ => by rw [i1 0 (by decide)]; exact us4 _ _ (by omega)) ⟨?_, fun t ht => ?_⟩ ⟨?_, fun t ht => ?_⟩
        · rw [i1 0 (by decide)]; exact h9.1
        · rw [i1 23 (by decide)]; exact h9.2 t ht
        · rw [i1 0 (by decide)]; rfl
        · rw [i2 t ht]
          show g 24 (t + 1) = _
          rw [e24 (t + 1) (by omega)]; rfl
      · obtain ⟨i1, i2, i3⟩ := hI
        obtain ⟨b1, b2, b3, b4, b5, b6⟩ := hKM
        have z0 : ∀ j, j ≠ 25 → g1 0 j = g 0 j := fun j hj => by rw [i1 0 (by decide)]; exact us4 _ _ hj
        exact ⟨(z0 12 (by decide)).trans b1, (z0 13 (by decide)).trans b2, (z0 20 (by decide)).trans b3, FrM_fr _ (fun c c1 c2 t ht => by rw [i1 c (by omega), usZ (by omega)]) b4, VlM_fr (fun t ht => by rw [i1 21 (by decide)]; rfl) b5, (z0 18 (by decide)).trans b6⟩
    · rw [e25] at c
      exact absurd ((nI_eq (b := 0) (by omega) (by decide)).mp c) (by omega)
end NR
