-- ===== operators: what is common to them =====
section OG
variable {x : Cx} {G0 G : SG} {N : Nat} {φ : Nat → Nat} {b lo hi : Nat} {sv : Nat → Option Va} {rc : Nat → Va × Va} {hp : Nat → Option Ob} {out : List Nat} {inp : List Int} {cn : Nat → Int32} {LV LC LK : List Gw} {p n i : Nat} {post : Int32 → SG → Prop}
theorem vl_1 {g : St} {a : Va} {l : List Va} (h : VlM g ([a] ++ l)) : g 21 l.length = enc a := VlM_top h
theorem vl_2 {g : St} {a c : Va} {l : List Va} (h : VlM g ([c, a] ++ l)) : g 21 l.length = enc a ∧ g 21 (l.length + 1) = enc c := ⟨VlM_top (VlM_tl (vs := [c]) h), VlM_top h⟩
theorem vl_3 {g : St} {a c d : Va} {l : List Va} (h : VlM g ([d, c, a] ++ l)) : g 21 l.length = enc a ∧ g 21 (l.length + 1) = enc c ∧ g 21 (l.length + 2) = enc d := ⟨VlM_top (VlM_tl (vs := [d, c]) h), VlM_top (VlM_tl (vs := [d]) h), VlM_top h⟩
/-- the answer takes the place of the parts -/
theorem c_settle {m : Nat} {y : Gw} {L0 L1 : List Gw} {R : SG → Prop} (h : CG x G0 φ b lo hi sv rc hp out inp cn (L0 ++ L1) LC LK p G) (hw : G 4 0 3 = 0) (hm : L0.length = m) (hl : (L0 ++ L1).length ≤ 1550) (hl1 : L1.length < 1550) (k : ∀ G1, CG x G0 φ b lo hi sv rc hp out inp cn (y :: L1) LC LK p G1 → G1 4 0 3 = 0 → R G1) : V_X7_settle N (gw φ y) (nI m) G R := by
  have e9 : G 9 0 0 = nI (L0 ++ L1).length := by have := h.2.1.1; rw [List.length_map] at this; exact this
  rw [List.length_append] at hl e9
  unfold V_X7_settle
  refine ⟨fun c => absurd h.2.2.2.2.2.2 c, fun _ => ⟨fun c => absurd hw c, fun _ => ?_⟩⟩
  rw [e9, nI_sub (by omega)]
  refine v_cut h.2.1 (by rw [List.length_map, List.length_append]; omega) (by rw [List.length_map, List.length_append]; omega) (fun u hu => eqI ?_)
  have ed : (List.map (gw φ) (L0 ++ L1)).drop ((List.map (gw φ) (L0 ++ L1)).length - (L0.length + L1.length - m)) = L1.map (gw φ) := by
    rw [List.length_map, List.length_append, show L0.length + L1.length - (L0.length + L1.length - m) = L0.length by omega, List.map_append]
    have := List.drop_left (l₁ := L0.map (gw φ)) (l₂ := L1.map (gw φ))
    rw [List.length_map] at this
    exact this
  rw [ed] at hu
  have h2 := CG9 (LV1 := L1) h hu
  exact v_push h2.2.1 (by rw [List.length_map]; exact hl1) (by decide) (fun u2 hu2 => eqI (k _ (CG9 (LV1 := y :: L1) h2 hu2) hw))
theorem c_settleX {m : Int32} {r : Int32} {e : Nat} {R : SG → Prop} (h : CE x G0 φ b lo hi sv rc hp out inp cn e G) (he : 0 < e) (he2 : e < 100) (k : R G) : V_X7_settle N r m G R := by
  unfold V_X7_settle
  refine ⟨fun _ => k, fun c => ?_⟩
  rw [h.2.1] at c
  exact absurd ((nI_eq (b := 0) (by omega) (by decide)).mp c) (by omega)
/-- an operator is applied -/
theorem i_app {op m : Nat} (hX : XC x G0 N) (h : CG x G0 φ b lo hi sv rc hp out inp cn LV LC LK p G) (hii : i < 1000000) (hpp : p + 2 < 1536) (hop : op < 32) (c1 : x.c p = 15) (c2 : x.c (p + 1) = nI op) (c3 : x.c (p + 2) = nI m) (k : ∀ G1, CG x G0 φ b lo hi sv rc hp out inp cn LV LC LK (p + 3) G1 → G1 4 0 3 = 0 → V_X7_answerOf N n op (nI m) G1 (fun r g => V_X7_settle N r (nI m) g (fun g => AfA N post n i (G 4 0 0) g))) : V_X7_run_32 N post (n + 1) (nI i) G := by
  refine c_loop hii h.2.2.2.2.2.1 h.2.2.2.2.2.2 ?_
  have ha := CGwt (w := 0) h
  unfold V_X7_advance
  refine v_opd hX ha (by omega) (fun G1 h1 w1 o1 => ?_)
  rw [c1]
  refine ⟨fun c => absurd c (by decide), fun c => absurd c (by decide), fun c => absurd c (by decide), fun c => absurd c (by decide), fun c => absurd c (by decide), fun c => absurd c (by decide), fun c => absurd c (by decide), fun c => absurd c (by decide), fun c => absurd c (by decide), fun c => absurd c (by decide), fun c => absurd c (by decide), fun c => absurd c (by decide), fun c => absurd c (by decide), fun c => absurd c (by decide), fun _ => ?_, fun c1 c2 c3 c4 c5 c6 c7 c8 c9 c10 c11 c12 c13 c14 c15 => absurd rfl c15⟩
  refine v_opd hX h1 (by omega) (fun G2 h2 w2 o2 => ?_)
  rw [c2]
  refine v_opd hX h2 (by omega) (fun G3 h3 w3 o3 => ?_)
  rw [c3]
  exact v_x3at hop (k G3 h3 (w3.trans (w2.trans w1)))
/-- the same where there is no room -/
theorem i_appN {op m : Nat} {R : SG → Prop} (hX : XC x G0 N) (h : CG x G0 φ b lo hi sv rc hp out inp cn LV LC LK p G) (hw : G 4 0 3 = 0) (hpp : p + 2 < 1536) (hop : op < 32) (c1 : x.c p = 15) (c2 : x.c (p + 1) = nI op) (c3 : x.c (p + 2) = nI m) (k : ∀ G1, CG x G0 φ b lo hi sv rc hp out inp cn LV LC LK (p + 3) G1 → G1 4 0 3 = 0 → V_X7_answerOf N n op (nI m) G1 (fun r g => V_X7_settle N r (nI m) g (fun g => R g))) : V_X7_advance N n G R := by
  unfold V_X7_advance
  refine v_opd hX h (by omega) (fun G1 h1 w1 o1 => ?_)
  rw [c1]
  refine ⟨fun c => absurd c (by decide), fun c => absurd c (by decide), fun c => absurd c (by decide), fun c => absurd c (by decide), fun c => absurd c (by decide), fun c => absurd c (by decide), fun c => absurd c (by decide), fun c => absurd c (by decide), fun c => absurd c (by decide), fun c => absurd c (by decide), fun c => absurd c (by decide), fun c => absurd c (by decide), fun c => absurd c (by decide), fun c => absurd c (by decide), fun _ => ?_, fun c1 c2 c3 c4 c5 c6 c7 c8 c9 c10 c11 c12 c13 c14 c15 => absurd rfl c15⟩
  refine v_opd hX h1 (by omega) (fun G2 h2 w2 o2 => ?_)
  rw [c2]
  refine v_opd hX h2 (by omega) (fun G3 h3 w3 o3 => ?_)
  rw [c3]
  exact v_x3at hop (k G3 h3 (w3.trans (w2.trans (w1.trans hw))))
end OG
section OH
variable {x : Cx} {G0 : SG} {N : Nat} {cv cf : Int32} {sv : Nat → Option Va} {rc : Nat → Va × Va} {hp : Nat → Option Ob} {out : List Nat} {inp : List Int} {cn : Nat → Int32}
/-- the reference's part of an operator -/
def RefO (n op base : Nat) (g : St) (k : StL) (R : Int32 → St → StL → Prop) : Prop :=
  (op < 16 → V_X12_lists n (nI (op - 1)) (nI base) g k R) ∧ (16 ≤ op → op < 26 → V_X12_numbers (nI (op - 1)) (g 21 base) (g 21 (base + 1)) g k R) ∧ (26 ≤ op → V_X12_others n (nI (op - 1)) (nI base) g k R)
theorem r_apply {g : St} {k : StL} {n op i st e q : Nat} {rest : List Nat} {vs : List Va} {K : List Fr} {post : St → StL → Prop} (h9 : 9 ≤ op) (h32 : op < 32) (hK : MK ((op, i, rest, st, e, q, vs) :: K) g) (hl : K.length < 1002) (hl2 : (allv K).length < 1098) (kk : RefO n op (allv K).length g k (fun r g1 k1 => (¬ (g1 0 18) = 0 → post g1 k1) ∧ ((g1 0 18) = 0 → V_X12_pop r g1 k1 post))) : V_X12_apply n (nI (opR op)) g k post := by
  have t1 := top1 hK.1
  have ec : (nI K.length).toNatClampNeg = K.length := nI_clamp (by omega)
  have e20 : g 20 K.length = nI (allv K).length := hK.2.2.2.1.2.2.2.2.2.1
  have eo : opR op = op - 1 := by unfold opR; rw [if_neg (by omega)]
  have ne : ∀ m, m < 100 → m ≠ op - 1 → ¬ nI (op - 1) = nI m := fun m hm hne c => hne ((nI_eq (by omega) (by omega)).mp c).symm
  obtain ⟨k1, k2, k3⟩ := kk
  unfold V_X12_apply
  rw [t1, ec, e20, eo]
  refine ⟨vp_in_nI hl (by decide), eqI ⟨fun _ => ⟨fun _ => ⟨fun c15 => ?_, fun c15 => ?_⟩, fun c => absurd c (ne 7 (by decide) (by omega))⟩, fun c => absurd c (ne 31 (by decide) (by omega))⟩⟩
  · have h15 : 15 ≤ op - 1 := (nI_leI (a := 15) (by decide) (by omega)).mp c15
    refine ⟨fun c25 => ?_, fun c25 => ?_⟩
    · have h25 : 25 ≤ op - 1 := (nI_leI (a := 25) (by decide) (by omega)).mp c25
      exact k3 (by omega)
    · have h25 : ¬ 25 ≤ op - 1 := fun h => c25 (nI_le (a := 25) h (by omega))
      rw [nI_clamp (by omega), nI_1, nI_clamp (by omega)]
      exact ⟨vp_in_nI (by omega) (by decide), vp_in_nI (by omega) (by decide), k2 (by omega) (by omega)⟩
  · have h15 : ¬ 15 ≤ op - 1 := fun h => c15 (nI_le (a := 15) h (by omega))
    exact k1 (by omega)
/-- what is known when an operator has all its parts -/
def OpF (x : Cx) (sv : Nat → Option Va) (rc : Nat → Va × Va) (hp : Nat → Option Ob) (out : List Nat) (inp : List Int) (cn : Nat → Int32) (K : List Fr) (op i st e q p D p1 : Nat) (sc : List (List Nat)) (vv : List Va) : Prop := PW x sv rc hp out inp ∧ CtK 0 ((op, i, [], st, e, q, vv) :: K) cn ∧ CtK 1 K cn ∧ (∀ v ∈ vv, VV x.K x.C hp v) ∧ 9 ≤ op ∧ op < 32 ∧ FEWL.getD op 0 ≤ nI vv.length ∧ nI vv.length ≤ MOSTL.getD op 0 ∧ vv.length ≤ 4 ∧ Chn x 12 p p1 ∧ x.c p1 = 15 ∧ x.c (p1 + 1) = nI op ∧ x.c (p1 + 2) = nI vv.length ∧ q = p1 + 3 ∧ q < x.tp ∧ Cn x hp K q (D + 1) sc ∧ K.length ≤ 371 ∧ (cvl K).length ≤ 1484 ∧ (ccl K).length ≤ 60 ∧ (cat K).length ≤ 1488 ∧ (vv ++ allv K).length ≤ 1000 ∧ Gd x hp ((op, i, [], st, e, q, vv) :: K)
theorem Gd_full {K : List Fr} {op i st e q d q0 : Nat} {sc : List (List Nat)} {vv : List Va} (htp : x.tp ≤ 1400) (hop : gth op) (hv : ∀ v ∈ vv, VV x.K x.C hp v) (hl : vv.length ≤ 5) (hK : Cn x hp K q0 d sc) (hd : 1 ≤ d) (hn : ncal K ≤ 30) (hlen : K.length ≤ 371) : Gd x hp ((op, i, [], st, e, q, vv) :: K) := by
  obtain ⟨a1, a2, a3, a4, a5, a6, a7, a8, a9, a10⟩ := Gd_cn htp hK hd hn
  have n33 : op ≠ 33 := by rcases hop with h | h | h <;> omega
  have n7 : op ≠ 7 := by rcases hop with h | h | h <;> omega
  obtain ⟨-, z2, z3, z4, -, -⟩ := Cn_all K q0 d sc hK
  have ec : cvl ((op, i, [], st, e, q, vv) :: K) = vv ++ cvl K := by
    show (if op = 7 then [] else vv) ++ cvl K = _
    rw [if_neg n7]
  have ek : cat ((op, i, [], st, e, q, vv) :: K) = cat K := by
    show (if op = 7 ∧ st = 1 then gv (vnum (q : Int)) :: gv (vnum ((2 * ncal K : Nat) : Int)) :: gv (vnum ((cvl K).length : Int)) :: vv.map (fun v => gv v) else []) ++ cat K = _
    rw [if_neg (fun c => n7 c.1)]; rfl
  have el : ccl ((op, i, [], st, e, q, vv) :: K) = ccl K := by
    show (if op = 33 then [gv (vnum (q : Int)), (some (Sum.inr e) : Gw)] else []) ++ ccl K = _
    rw [if_neg n33]; rfl
  have ee : envs ((op, i, [], st, e, q, vv) :: K) = envs K := by
    show (if op = 33 then [e] else []) ++ envs K = _
    rw [if_neg n33]; rfl
  refine ⟨fun v hm => ?_, by rw [ee]; exact a2, fun y hy => ?_, by rw [el, ee]; exact a4, fun v hm => ?_, fun f hf => ?_, by show K.length + 1 ≤ 372; omega, ?_, by rw [el]; exact a9, by rw [ek]; exact a10⟩
  · rcases List.mem_append.mp hm with h | h
    · exact hv v h
    · exact a1 v h
  · rw [ek] at hy
    rcases a3 y hy with h | ⟨v, h, h2⟩
    · exact Or.inl h
    · exact Or.inr ⟨v, List.mem_append.mpr (Or.inr h), h2⟩
  · rw [ec, ek]
    rcases List.mem_append.mp hm with h | h
    · exact Or.inl (List.mem_append.mpr (Or.inl h))
    · rcases a5 v h with h | h
      · exact Or.inl (List.mem_append.mpr (Or.inr h))
      · exact Or.inr h
  · rcases List.mem_cons.mp hf with h | h
    · rw [h]
      show op ≤ 33
      rcases hop with h | h | h <;> omega
    · exact a6 f h
  · rw [ec, List.length_append]; omega
theorem opF {K : List Fr} {op i st e q p : Nat} {vs : List Va} {v : Va} (hX : XC x G0 N) (h9 : 9 ≤ op) (h32 : op < 32) (h : PA x ((1, p, v), (op, i, [], st, e, q, vs) :: K, sv, rc, hp, out, inp, cn)) : ∃ D p1 sc, OpF x sv rc hp out inp cn K op i st e q p D p1 sc (v :: vs) := by
  obtain ⟨hW, hCt, hv, ⟨sc0, hK0⟩, D, p1, sc, h1, h2, h3, h4, h5, h6, h7, h8, hF, h10, h11⟩ := rtF h
  obtain ⟨st0, e0, hst0, ecl, hn⟩ := CtK_lim hCt
  obtain ⟨l1, l2, l3, l4⟩ := Cn_LB hK0 (Nat.le_refl _) hn
  have l1 : K.length + 1 ≤ 372 := l1
  have hK := h11 (by omega)
  have htp := hX.1.2.2.2.2.2.2
  have hnc : ncal K ≤ 30 := by
    have hn : (if op = 33 then 1 else 0) + ncal K ≤ 30 := hn
    omega
  obtain ⟨-, z2, z3, z4, z5, -⟩ := Cn_all K q _ sc hK
  obtain ⟨o, rfl⟩ : ∃ o, op = o + 9 := ⟨op - 9, by omega⟩
  have hVV : ∀ w ∈ v :: vs, VV x.K x.C hp w := fun w hw => by
    rcases List.mem_cons.mp hw with e1 | e1
    · rw [e1]; exact hv
    · exact h1 w e1
  have hlv : ((v :: vs) ++ allv K).length ≤ 1000 := by
    obtain ⟨st9, dp9, -, -, b3, -, b5, -⟩ := hCt
    have b5 : (vs ++ allv K).length + 1 ≤ st9 := b5
    show (vs ++ allv K).length + 1 ≤ 1000
    omega
  rcases hF with ⟨c, -⟩ | ⟨-, f1, f2, f3, pe, hL, c1, c2, c3, eq⟩
  · omega
  · have ep : p1 = pe := hL
    subst ep
    have e1 : vs.length + 1 + ([] : List Nat).length = (v :: vs).length := rfl
    rw [e1] at f1 f2 f3 c3
    exact ⟨D, p1, sc, hW, CtK_fr hCt (by show vs.length + 1 + 0 ≤ vs.length + 1; omega), CtK_pop hCt (Nat.le_refl _), hVV, h9, h32, f1, f2, f3, h7, c1, c2, c3, eq, h4, hK, by omega, by omega, by omega, by omega, hlv, Gd_full htp (Or.inr (Or.inr ⟨h9, h32⟩)) hVV (by omega) hK (by omega) hnc (by omega)⟩
theorem cvl_full {K : List Fr} {op i st e q : Nat} {vv : List Va} (h7 : op ≠ 7) (h33 : op ≠ 33) : (cvl ((op, i, [], st, e, q, vv) :: K)).map gv = vv.map gv ++ (cvl K).map gv ∧ ccl ((op, i, [], st, e, q, vv) :: K) = ccl K ∧ cat ((op, i, [], st, e, q, vv) :: K) = cat K := by
  refine ⟨?_, ?_, ?_⟩
  · show ((if op = 7 then [] else vv) ++ cvl K).map gv = _
    rw [if_neg h7, List.map_append]
  · show (if op = 33 then [gv (vnum (q : Int)), (some (Sum.inr e) : Gw)] else []) ++ ccl K = _
    rw [if_neg h33]; rfl
  · show (if op = 7 ∧ st = 1 then gv (vnum (q : Int)) :: gv (vnum ((2 * ncal K : Nat) : Int)) :: gv (vnum ((cvl K).length : Int)) :: vv.map (fun v => gv v) else []) ++ cat K = _
    rw [if_neg (fun c => h7 c.1)]; rfl
/-- the class's part: from the operator's code on -/
def ClsO (x : Cx) (G0 : SG) (N p1 : Nat) (K : List Fr) (vv : List Va) (sv : Nat → Option Va) (rc : Nat → Va × Va) (hp : Nat → Option Ob) (out : List Nat) (inp : List Int) (cn : Nat → Int32) (A1 : As) : Prop :=
  ∀ (φ : Nat → Nat) (b lo hi : Nat) (G : SG) (post : Int32 → SG → Prop) (n i : Nat), CG x G0 φ b lo hi sv rc hp out inp cn (vv.map gv ++ (cvl K).map gv) (ccl K) (cat K) p1 G → 15000 ≤ n → i + 10 ≤ 1000000 → (∀ G1 n1 i1, CR x G0 A1 G1 → n ≤ n1 + 10 → i1 ≤ i + 10 → V_X7_run_32 N post n1 (nI i1) G1) → V_X7_run_32 N post n (nI i) G
/-- an operator whose parts are all there: both sides -/
theorem s_op {K : List Fr} {op i st e q p D p1 : Nat} {sc : List (List Nat)} {vs : List Va} {v : Va} {A1 : As} (hX : XC x G0 N) (hF : OpF x sv rc hp out inp cn K op i st e q p D p1 sc (v :: vs)) (hA : PA x A1) (hmu : mu A1 < mu ((1, p, v), (op, i, [], st, e, q, vs) :: K, sv, rc, hp, out, inp, cn)) (hC : ClsO x G0 N p1 K (v :: vs) sv rc hp out inp cn A1)
    (hR : ∀ (g : St) (k : StL) (post : Int32 → St → StL → Prop) (n : Nat), MW x cv cf sv rc hp out inp cn g k → MK ((op, i, [], st, e, q, v :: vs) :: K) g → g 0 17 = 1 → 20000 ≤ n → (∀ (g1 : St) (k1 : StL), MR x cv cf A1 g1 k1 → V_X12_run_69 post n g1 k1) → RefO n op (allv K).length g k (fun r g1 k1 => (¬ (g1 0 18) = 0 → V_X12_run_69 post n g1 k1) ∧ ((g1 0 18) = 0 → V_X12_pop r g1 k1 (fun g2 k2 => V_X12_run_69 post n g2 k2)))) : Stq x G0 N cv cf ((1, p, v), (op, i, [], st, e, q, vs) :: K, sv, rc, hp, out, inp, cn) := by
  obtain ⟨hW, hCt, hCt1, hVV, h9, h32, f1, f2, f3, h7, c1, c2, c3, eq, hq, hK, l1, l2, l3, l4, l5, hGd⟩ := hF
  have n33 : op ≠ 33 := by omega
  have n7 : op ≠ 7 := by omega
  obtain ⟨v1, v2, v3⟩ := cvl_full (K := K) (i := i) (st := st) (e := e) (q := q) (vv := v :: vs) n7 n33
  obtain ⟨w1, w2, w3⟩ := cvl_full (K := K) (i := i) (st := st) (e := e) (q := q) (vv := vs) n7 n33
  have l5 : (vs ++ allv K).length + 1 ≤ 1000 := l5
  refine ⟨A1, hA, hmu, ?_, ?_⟩
  · intro G post n i2 hG hn2 hi2 kk
    obtain ⟨φ, b, lo, hi, hG⟩ := hG
    rw [w1, w2, w3] at hG
    obtain ⟨n, rfl⟩ : ∃ n', n = n' + 12 := ⟨n - 12, by omega⟩
    refine i_chain 12 p p1 n i2 G hX h7 hG (by omega) (fun G1 m i3 g1 b1 b2 => ?_)
    exact hC φ b lo hi G1 post m i3 g1 (by omega) (by omega) (fun G2 n1 i1 h2 d1 d2 => kk G2 n1 i1 h2 (by omega) (by omega))
  · intro g k post n hR2 hn2 kk
    obtain ⟨hM, hK2, h16, h17⟩ := hR2
    refine r_run1 hK2.2.2.2.2.2 h17 hK2.1 (by omega) (r_res hK2 (by omega) (fun y hy => (by cases hy)) (r_arg (Or.inr (Or.inr ⟨h9, h32⟩)) hM hK2 h16 h17 (by omega) (fun g1 m1 m2 m3 => ⟨fun c => absurd rfl c, fun _ => ?_⟩)))
    rw [List.length_append] at l5
    exact r_apply h9 h32 m2 (by omega) (by omega) (hR g1 k post n m1 m2 m3 hn2 kk)
end OH
