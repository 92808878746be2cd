-- ===== a list is asked for =====
section AL
variable {x : Cx} {G0 : SG} {N : Nat} {cv cf : Int32} {sv : Nat → Option Va} {rc : Nat → Va × Va} {hp : Nat → Option Ob} {out : List Nat} {inp : List Int} {cn : Nat → Int32}
theorem opR_eq {op m : Nat} (h : op < 32) (hm : m < 31) : nI (opR op) = nI m ↔ op = m + 1 := by
  have h1 : opR op < 32 := by unfold opR; split <;> omega
  rw [nI_eq (by omega) (by omega)]
  unfold opR
  split <;> omega
theorem opR_31 {op : Nat} (h : op < 32) : nI (opR op) = 31 ↔ op = 0 := by
  have h1 : opR op < 32 := by unfold opR; split <;> omega
  rw [show (31 : Int32) = nI 31 from rfl, nI_eq (by omega) (by omega)]
  unfold opR
  split <;> omega
theorem hdl_nil {l : List Nat} (h : ∀ y ∈ l, y < 1100) : enc (hdl l) = 1048576 ↔ l = [] := by
  cases l with
  | nil => exact ⟨fun _ => rfl, fun _ => rfl⟩
  | cons y l => exact ⟨fun c => absurd c (rd_nnil (h y (by simp))), fun c => (by cases c)⟩
theorem r_beg {g : St} {k : StL} {Kf : List Fr} {i c op n e q : Nat} {l : List Nat} {post : St → StL → Prop} (hx : XOK x) (hM : MW x cv cf sv rc hp out inp cn g k) (hC : ∀ i, x.C i → rc i = x.r0 i) (hK : MK Kf g) (h14 : g 0 14 = enc (vrd i c)) (h15 : g 0 15 = nI (fe Kf)) (hi : x.C i) (hl : Lst x.r0 (x.r0 i).2 l) (hlC : ∀ y ∈ l, x.C y) (hop : op < 32) (n1 : op ≠ 1) (n6 : op ≠ 6) (n4 : op = 4 → l ≠ []) (hlen : Kf.length < 1002)
    (kn : (if op = 0 then i :: l else l) ≠ [] → ∀ g1, MW x cv cf sv rc hp out inp cn g1 k → MK ((op, i, (if op = 0 then i :: l else if op = 4 then l.tail else l), 0, e, q, []) :: Kf) g1 → V_X12_next g1 k post)
    (k0 : op ≠ 0 → l = [] → ∀ g1, MW x cv cf sv rc hp out inp cn g1 k → MK ((op, i, [], 0, e, q, []) :: Kf) g1 → V_X12_nothing n (nI (opR op)) g1 k post) : V_X12_begin n (nI (opR op)) g k post := by
  have hir := (hx.2.2.2.1 i hi).1
  have hrn := hx.2.2.2.2.2.1
  have hin : ∀ y ∈ l, y < 1100 := fun y hy => by have := (hx.2.2.2.1 y (hlC y hy)).1; omega
  have e14 : g 0 14 = enc (vrd i 0) := h14
  unfold V_X12_begin
  refine ⟨fun c31 => ?_, fun c31 => ?_⟩
  · have h0 : op ≠ 0 := fun e => c31 ((opR_31 hop).mpr e)
    rw [if_neg h0, if_neg h0] at kn
    rw [e14]
    refine r_cdr1 hM.2.2.2.1 hir (by omega) (by decide) ?_
    rw [hC i hi, enc_hdl hl]
    unfold V_X12_begin_21
    refine ⟨fun c0 => ⟨fun c5 => ⟨fun c3 => ?_, fun c3 => ?_⟩, fun c5 => absurd ((opR_eq (m := 5) hop (by decide)).mp c5) n6⟩, fun c0 => absurd ((opR_eq (m := 0) hop (by decide)).mp c0) n1⟩
    · have h4 : op ≠ 4 := fun e => c3 ((opR_eq (m := 3) hop (by decide)).mpr e)
      rw [if_neg h4] at kn
      refine r_push (op := op) (i := i) (c := 0) (rest := l) (e := e) (q := q) hM hK e14 h15 hlen (by omega) (fun g1 m1 m2 => ⟨fun cn1 => kn (fun e => cn1 ((hdl_nil hin).mpr e)) g1 m1 m2, fun cn1 => ?_⟩)
      have el := (hdl_nil hin).mp cn1
      subst el
      exact k0 h0 rfl g1 m1 m2
    · have h4 : op = 4 := (opR_eq (m := 3) hop (by decide)).mp c3
      cases l with
      | nil => exact absurd rfl (n4 h4)
      | cons a b =>
        have haC := hlC a (by simp)
        have har := (hx.2.2.2.1 a haC).1
        refine r_cdr1 hM.2.2.2.1 (i := a) (c := 0) har (by omega) (by decide) ?_
        rw [hC a haC, enc_hdl hl.2]
        rw [if_pos h4] at kn
        exact r_push (op := op) (i := i) (c := 0) (rest := b) (e := e) (q := q) hM hK e14 h15 hlen (by omega) (fun g1 m1 m2 => ⟨fun _ => kn (fun e => (by cases e)) g1 m1 m2, fun cn1 => absurd ((hdl_nil hin).mp cn1) (fun e => (by cases e))⟩)
  · have h0 : op = 0 := (opR_31 hop).mp c31
    rw [if_pos h0, if_pos h0] at kn
    rw [e14]
    unfold V_X12_begin_21
    refine ⟨fun c0 => ⟨fun c5 => ⟨fun c3 => ?_, fun c3 => absurd ((opR_eq (m := 3) hop (by decide)).mp c3) (by omega)⟩, fun c5 => absurd ((opR_eq (m := 5) hop (by decide)).mp c5) n6⟩, fun c0 => absurd ((opR_eq (m := 0) hop (by decide)).mp c0) n1⟩
    exact r_push (op := op) (i := i) (c := 0) (rest := i :: l) (e := e) (q := q) hM hK e14 h15 hlen (by omega) (fun g1 m1 m2 => ⟨fun _ => kn (fun e => (by cases e)) g1 m1 m2, fun cn1 => absurd cn1 (rd_nnil (by omega))⟩)
/-- what is known of a list that is asked for -/
def AkL (x : Cx) (hp : Nat → Option Ob) (Kf : List Fr) (p i c d q op : Nat) (sc : List (List Nat)) (l : List Nat) : Prop := x.C i ∧ vok (vrd i c) ∧ Lst x.r0 (x.r0 i).2 l ∧ (∀ y ∈ l, x.C y) ∧ opV x.nam (x.r0 i).1 = op ∧ op < 32 ∧ x.c p = 1 ∧ p < q ∧ q < x.tp ∧ d + 1 + sc.length ≤ 13 ∧ Cn x hp Kf q (d + 1) sc ∧ AtO x.r0 x.K x.C x.c x.ent (xE x d) sc i l p q op
theorem akL {Kf : List Fr} {i c p : Nat} (h : PA x ((0, p, vrd i c), Kf, sv, rc, hp, out, inp, cn)) : PW x sv rc hp out inp ∧ CtK 0 Kf cn ∧ ∃ d q op sc l, AkL x hp Kf p i c d q op sc l := by
  obtain ⟨hW, hCt, hvo, hsy, D, sc, q, hE, hq, hD, hK⟩ := h
  have hlt := AtE_lt D sc _ p q hE
  cases D with
  | zero => exact hE.elim
  | succ d =>
    obtain ⟨c1, a1, l, a2, a3, a4⟩ := hE
    exact ⟨hW, hCt, d, q, _, sc, l, a1, hvo, a2, a3, rfl, opV_lt _ _, c1, hlt, hq, hD, hK, a4⟩
/-- the reference at a list: the step is counted, the head looked up -/
theorem r_list {g : St} {k : StL} {Kf : List Fr} {i c op n st : Nat} {post : St → StL → Prop} (hx : XOK x) (hC : ∀ i, x.C i → rc i = x.r0 i) (hM : MW x cv cf sv rc hp out inp cn g k) (hK : MK Kf g) (h14 : g 0 14 = enc (vrd i c)) (h15 : g 0 15 = nI (fe Kf)) (hs : cn 2 = nI st) (hst : st < 1000) (hv : vok (vrd i c)) (hi : x.C i) (hop : opV x.nam (x.r0 i).1 = op)
    (kk : ∀ g1, MW x cv cf sv rc hp out inp (cnU cn 2 (nI (st + 1))) g1 k → MK Kf g1 → g1 0 14 = enc (vrd i c) → g1 0 15 = nI (fe Kf) → g1 0 17 = 1 → V_X12_begin n (nI (opR op)) g1 k post) : V_X12_evaluate n g k post := by
  have hir := hx.2.2.2.1 i hi
  have hrn := hx.2.2.2.2.2.1
  refine r_eval hM hK h14 h15 hs hst hv (fun _ c => absurd rfl c) (fun c => absurd c (show ¬ 4 = 3 by decide)) (fun _ g1 m1 m2 m3 m4 m5 => ?_)
  refine r_opOf (nam := x.nam) (sy := x.sy) m1.2.2.2.1 (by omega) hir.1 hv.2 hx.2.2.1.2.1 (fun s hs => (m1.2.2.1.2.1 s hs).2.1) (fun s e => hir.2.1 s (by rw [← hC i hi]; exact e)) ?_
  rw [hC i hi, hop]
  exact kk g1 m1 m2 m3 m4 m5
theorem a_push {Kf : List Fr} {i c p st y d q op p1 : Nat} {r l : List Nat} {sc : List (List Nat)} (hX : XC x G0 N) (hW : PW x sv rc hp out inp) (hCt : CtK 0 Kf cn) (hA : AkL x hp Kf p i c d q op sc l) (hs : cn 2 = nI st) (hst : st < 1000) (n1 : op ≠ 1) (n6 : op ≠ 6) (hL : (if op = 0 then i :: l else if op = 4 then l.tail else l) = y :: r) (hE1 : xE x d sc (x.r0 y).1 (p + 1) p1) (hp1 : p1 < x.tp) (hF : FrK x d p1 sc i r 0 q [] op) : Stq x G0 N cv cf ((0, p, vrd i c), Kf, sv, rc, hp, out, inp, cn) := by
  obtain ⟨hi, hvo, hl, hlC, hop, hop32, hc, hpq, hq, hD, hK, -⟩ := hA
  obtain ⟨st0, e0, hst0, ecl, hn⟩ := CtK_lim hCt
  have e9 : st0 = st := (nI_eq (by omega) (by omega)).mp (e0.symm.trans hs)
  subst e9
  obtain ⟨l1, l2, l3, l4⟩ := Cn_LB hK (by omega) hn
  have htp := hX.1.2.2.2.2.2.2
  have hyr : LsC x (y :: r) := by
    rw [← hL]
    by_cases h0 : op = 0
    · rw [if_pos h0]
      refine ⟨⟨⟨0, rfl⟩, hl⟩, fun z hz => ?_⟩
      rcases List.mem_cons.mp hz with e | e
      · rw [e]; exact hi
      · exact hlC z e
    · rw [if_neg h0]
      by_cases h4 : op = 4
      · rw [if_pos h4]
        cases l with
        | nil => exact ⟨rfl, fun z hz => (by cases hz)⟩
        | cons a b => exact ⟨Lst_hdl hl.2, fun z hz => hlC z (by simp [show z ∈ b from hz])⟩
      · rw [if_neg h4]; exact ⟨Lst_hdl hl, hlC⟩
  have hyC := hyr.2 y (by simp)
  have hyx := hX.1.2.2.2.1 y hyC
  have hCr := hW.2.2.1
  refine ⟨((0, p + 1, (x.r0 y).1), (op, i, r, 0, 0, q, []) :: Kf, sv, rc, hp, out, inp, cnU cn 2 (nI (st0 + 1))), ⟨hW, CtK_st hCt hs hst (by show ([] ++ allv Kf).length + 0 ≤ _; rw [List.nil_append]; omega) ?_, ?_, hyx.2.1, d, sc, p1, hE1, hp1, by omega, fun v hv => (by cases hv), LsC_tl hyr, Nat.zero_le _, hq, d, p1, Nat.le_refl _, by omega, Chn_mono 0 _ _ _ (Nat.zero_le _) rfl, hp1, hF, fun e => absurd e (by omega), fun _ => hK⟩, ?_, ?_, ?_⟩
  · show (if op = 33 then 1 else 0) + ncal Kf = ncal Kf
    rw [if_neg (by omega), Nat.zero_add]
  · rw [← hCr y hyC]; exact (hW.2.2.2.1 y hyx.1).1
  · show 3 * (1001 - (cnU cn 2 (nI (st0 + 1)) 2).toNatClampNeg) + (Kf.length + 1) + 1 < 3 * (1001 - (cn 2).toNatClampNeg) + Kf.length + 1
    rw [cnU_at, nI_clamp (by omega), ecl]; omega
  · intro G post n i2 hG hn2 hi2 kk
    obtain ⟨φ, b, lo, hi, hG⟩ := hG
    obtain ⟨n, rfl⟩ : ∃ n', n = n' + 1 := ⟨n - 1, by omega⟩
    refine i_step hX hG (by omega) hs hst (by omega) hc (fun G1 h1 => kk G1 n (i2 + 1) ⟨φ, b, lo, hi, ?_⟩ (by omega) (by omega))
    have v1 : cvl ((op, i, r, 0, 0, q, []) :: Kf) = cvl Kf := by
      show (if op = 7 then [] else []) ++ cvl Kf = cvl Kf
      rw [show (if op = 7 then ([] : List Va) else []) = [] by split <;> rfl]; rfl
    have v2 : ccl ((op, i, r, 0, 0, q, []) :: Kf) = ccl Kf := by
      show (if op = 33 then [gv (vnum (q : Int)), (some (Sum.inr 0) : Gw)] else []) ++ ccl Kf = ccl Kf
      rw [if_neg (by omega)]; rfl
    have v3 : cat ((op, i, r, 0, 0, q, []) :: Kf) = cat Kf := by
      show (if op = 7 ∧ 0 = 1 then gv (vnum (q : Int)) :: gv (vnum ((2 * ncal Kf : Nat) : Int)) :: gv (vnum ((cvl Kf).length : Int)) :: List.map (fun v => gv v) [] else []) ++ cat Kf = cat Kf
      rw [if_neg (by omega)]; rfl
    rw [v1, v2, v3]; exact h1
  · intro g k post n hR hn2 kk
    obtain ⟨hM, hK2, h14, h15, h17⟩ := hR
    refine r_run0 hK2.2.2.2.2.2 h17 (r_list hX.1 hCr hM hK2 h14 h15 hs hst hvo hi hop (fun g1 m1 m2 m3 m4 m5 => ?_))
    refine r_beg (e := 0) (q := q) hX.1 m1 hCr m2 m3 m4 hi hl hlC hop32 n1 n6 (fun e el => ?_) (by omega) (fun _ g2 p1 p2 => ?_) (fun h0 el => ?_)
    · rw [if_neg (by omega), if_pos e, el] at hL; cases hL
    · rw [hL] at p2
      exact r_next hX.1 p1 hCr p2 hyr (by omega) (fun g3 s1 s2 s3 s4 s5 => kk g3 k ⟨s1, s2, s3, s4, s5⟩)
    · rw [if_neg h0, el] at hL
      by_cases h4 : op = 4
      · rw [if_pos h4] at hL; cases hL
      · rw [if_neg h4] at hL; cases hL
/-- (quote a) -/
theorem a_quote {Kf : List Fr} {i c p st d q : Nat} {l : List Nat} {sc : List (List Nat)} (hX : XC x G0 N) (hW : PW x sv rc hp out inp) (hCt : CtK 0 Kf cn) (hA : AkL x hp Kf p i c d q 1 sc l) (hs : cn 2 = nI st) (hst : st < 1000) : Stq x G0 N cv cf ((0, p, vrd i c), Kf, sv, rc, hp, out, inp, cn) := by
  obtain ⟨hi, hvo, hl, hlC, hop, hop32, hc, hpq, hq, hD, hK, hO⟩ := hA
  obtain ⟨a, el, c1, c2, eq, hVn⟩ := hO
  subst el
  obtain ⟨hVV, hnm⟩ := VV_none (hp := hp) hVn
  obtain ⟨st0, e0, hst0, ecl, hn⟩ := CtK_lim hCt
  have e9 : st0 = st := (nI_eq (by omega) (by omega)).mp (e0.symm.trans hs)
  subst e9
  obtain ⟨l1, l2, l3, l4⟩ := Cn_LB hK (by omega) hn
  have htp := hX.1.2.2.2.2.2.2
  have hrn := hX.1.2.2.2.2.2.1
  have hCr := hW.2.2.1
  have haC := hlC a (by simp)
  have har := (hX.1.2.2.2.1 a haC).1
  have hir := (hX.1.2.2.2.1 i hi).1
  refine ⟨((1, p + 3, (x.r0 a).1), Kf, sv, rc, hp, out, inp, cnU cn 2 (nI (st0 + 1))), ⟨hW, CtK_st hCt hs hst (by omega) rfl, hVV, sc, ?_⟩, ?_, ?_, ?_⟩
  · rw [← eq]; exact Cn_mono Kf q (d + 1) 1 sc (by omega) hK
  · show 3 * (1001 - (cnU cn 2 (nI (st0 + 1)) 2).toNatClampNeg) + Kf.length + 2 < 3 * (1001 - (cn 2).toNatClampNeg) + Kf.length + 1
    rw [cnU_at, nI_clamp (by omega), ecl]; omega
  · intro G post n i hG hn2 hi2 kk
    obtain ⟨φ, b, lo, hi, hG⟩ := hG
    obtain ⟨n, rfl⟩ : ∃ n', n = n' + 2 := ⟨n - 2, by omega⟩
    refine i_step (n := n + 1) hX hG (by omega) hs hst (by omega) hc (fun G1 h1 => ?_)
    exact i_word (y := gv (x.r0 a).1) hX h1 (by omega) (by omega) c1 (c2.trans (cw_nm hnm)) (by rw [List.length_map]; omega) (fun G2 h2 => kk G2 n (i + 1 + 1) ⟨φ, b, lo, hi, h2⟩ (by omega) (by omega))
  · intro g k post n hR hn2 kk
    obtain ⟨hM, hK2, h14, h15, h17⟩ := hR
    refine r_run0 hK2.2.2.2.2.2 h17 (r_list hX.1 hCr hM hK2 h14 h15 hs hst hvo hi hop (fun g1 m1 m2 m3 m4 m5 => ?_))
    unfold V_X12_begin
    refine ⟨fun _ => ?_, fun c => absurd c (by decide)⟩
    rw [m3]
    refine r_cdr1 m1.2.2.2.1 hir (by omega) hvo.2 ?_
    rw [hCr i hi, enc_hdl hl]
    unfold V_X12_begin_21
    refine ⟨fun c => absurd rfl c, fun _ => r_car1 m1.2.2.2.1 (i := a) (c := 0) har (by omega) (by decide) (eqI ?_)⟩
    rw [hCr a haC]
    obtain ⟨b1, b2, b3, b4, b5, b6⟩ := m2
    refine kk _ k ⟨MW_fr m1 (fun c hc _ => usZ hc) (fun j hj => by rw [us0, if_neg (by omega)]), ⟨b1, b2, b3, FrM_fr Kf (fun c c1 c2 t ht => by rw [usZ (by omega)]) b4, VlM_fr (fun t ht => rfl) b5, b6⟩, rfl, m5⟩
/-- (do) -/
theorem a_do0 {Kf : List Fr} {i c p st d q : Nat} {sc : List (List Nat)} (hX : XC x G0 N) (hW : PW x sv rc hp out inp) (hCt : CtK 0 Kf cn) (hA : AkL x hp Kf p i c d q 3 sc []) (hs : cn 2 = nI st) (hst : st < 1000) : Stq x G0 N cv cf ((0, p, vrd i c), Kf, sv, rc, hp, out, inp, cn) := by
  obtain ⟨hi, hvo, hl, hlC, hop, hop32, hc, hpq, hq, hD, hK, hO⟩ := hA
  obtain ⟨c1, c2, eq⟩ := hO
  obtain ⟨st0, e0, hst0, ecl, hn⟩ := CtK_lim hCt
  have e9 : st0 = st := (nI_eq (by omega) (by omega)).mp (e0.symm.trans hs)
  subst e9
  obtain ⟨l1, l2, l3, l4⟩ := Cn_LB hK (by omega) hn
  have htp := hX.1.2.2.2.2.2.2
  have hCr := hW.2.2.1
  refine ⟨((1, p + 3, vnil), Kf, sv, rc, hp, out, inp, cnU cn 2 (nI (st0 + 1))), ⟨hW, CtK_st hCt hs hst (by omega) rfl, trivial, sc, ?_⟩, ?_, ?_, ?_⟩
  · have eq : q = p + 3 := eq
    rw [← eq]; exact Cn_mono Kf q (d + 1) 1 sc (by omega) hK
  · show 3 * (1001 - (cnU cn 2 (nI (st0 + 1)) 2).toNatClampNeg) + Kf.length + 2 < 3 * (1001 - (cn 2).toNatClampNeg) + Kf.length + 1
    rw [cnU_at, nI_clamp (by omega), ecl]; omega
  · intro G post n i hG hn2 hi2 kk
    obtain ⟨φ, b, lo, hi, hG⟩ := hG
    obtain ⟨n, rfl⟩ : ∃ n', n = n' + 2 := ⟨n - 2, by omega⟩
    refine i_step (n := n + 1) hX hG (by omega) hs hst (by omega) hc (fun G1 h1 => ?_)
    exact i_word (y := gv vnil) hX h1 (by omega) (by omega) c1 (c2.trans wd_nil.symm) (by rw [List.length_map]; omega) (fun G2 h2 => kk G2 n (i + 1 + 1) ⟨φ, b, lo, hi, h2⟩ (by omega) (by omega))
  · intro g k post n hR hn2 kk
    obtain ⟨hM, hK2, h14, h15, h17⟩ := hR
    refine r_run0 hK2.2.2.2.2.2 h17 (r_list hX.1 hCr hM hK2 h14 h15 hs hst hvo hi hop (fun g1 m1 m2 m3 m4 m5 => ?_))
    refine r_beg (e := 0) (q := q) hX.1 m1 hCr m2 m3 m4 hi hl hlC hop32 (by decide) (by decide) (fun e => absurd e (by decide)) (by omega) (fun c => absurd rfl c) (fun _ _ g2 p1 p2 => ?_)
    unfold V_X12_nothing
    refine ⟨fun c => absurd c (by decide), fun _ => ⟨fun _ => r_pop p1 p2 (by omega) (by decide) (fun g3 s1 s2 s3 s4 s5 => kk g3 k ⟨s1, s2, s3, s4⟩), fun c => absurd c (by decide)⟩⟩
end AL
