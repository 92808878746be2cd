-- ===== operators that leave the world as it is: how they are put together =====
/-- an operator's answer, its first two parts known -/
def AnsB (N n x1 : Nat) (x2 r_1 r_4 : Int32) (g_5 : SG) (post : Int32 → SG → Prop) : Prop := (x1 < 32 ∧ (vp_in (nI x1) 32 ∧ ∀ x_8 : Int32, x_8 = (SMAP.getD (nI x1).toNatClampNeg 0) → ((x_8 = (10 : Int32) → V_X7_partOf N r_1 (0 : Int32) g_5 (fun r_10 g_11 => post r_10 g_11)) ∧ (x_8 = (11 : Int32) → V_X7_partOf N r_1 (1 : Int32) g_5 (fun r_12 g_13 => post r_12 g_13)) ∧ (x_8 = (12 : Int32) → V_X7_newCell N r_1 r_4 g_5 (fun r_14 g_15 => post r_14 g_15)) ∧ (x_8 = (13 : Int32) → V_X7_newList N n x2 g_5 (fun r_16 g_17 => post r_16 g_17)) ∧ (x_8 = (14 : Int32) → V_X7_replaced N r_1 (0 : Int32) r_4 g_5 (fun r_18 g_19 => post r_18 g_19)) ∧ (x_8 = (15 : Int32) → V_X7_replaced N r_1 (1 : Int32) r_4 g_5 (fun r_20 g_21 => post r_20 g_21)) ∧ (x_8 = (16 : Int32) → V_X10_tag r_1 (fun r_22 => ((r_22 = (4 : Int32) → V_X7_truth (0 : Int32) (fun r_24 => post r_24 g_5)) ∧ (¬ r_22 = (4 : Int32) → V_X7_truth (1 : Int32) (fun r_25 => post r_25 g_5))))) ∧ (x_8 = (17 : Int32) → ((¬ r_1 = r_4 → V_X7_truth (0 : Int32) (fun r_27 => post r_27 g_5)) ∧ (r_1 = r_4 → V_X7_truth (1 : Int32) (fun r_28 => post r_28 g_5)))) ∧ (x_8 = (18 : Int32) → V_X7_newVector N n r_1 r_4 g_5 (fun r_29 g_30 => post r_29 g_30)) ∧ (x_8 = (19 : Int32) → V_X7_indexed N r_1 r_4 g_5 (fun r_31 g_32 => V_X2_at N r_31 (g_32 2) (fun r_33 u_35 => ∀ g_34 : SG, g_34 = uo g_32 2 u_35 → post r_33 g_34))) ∧ (x_8 = (20 : Int32) → V_X7_indexed N r_1 r_4 g_5 (fun r_36 g_37 => V_X8_peek 1550 (0 : Int32) (g_37 9) (fun r_38 u_40 => ∀ g_39 : SG, g_39 = uo g_37 9 u_40 → V_X2_put N r_36 r_38 (g_39 2) (fun u_43 => ∀ g_42 : SG, g_42 = uo g_39 2 u_43 → V_X8_peek 1550 (0 : Int32) (g_42 9) (fun r_44 u_46 => ∀ g_45 : SG, g_45 = uo g_42 9 u_46 → post r_44 g_45))))) ∧ (x_8 = (21 : Int32) → V_X7_lengthOf N r_1 g_5 (fun r_47 g_48 => post r_47 g_48)) ∧ (x_8 = (22 : Int32) → V_X4_write N n 10 r_1 (0 : Int32) g_5 (fun g_50 => V_X4_endLine N  g_50 (fun g_52 => post r_1 g_52))) ∧ (x_8 = (23 : Int32) → ((¬ (g_5 5 0 1) = 0 → V_X5_removeOldest 8  (g_5 5) (fun r_54 u_56 => ∀ g_55 : SG, g_55 = uo g_5 5 u_56 → V_X10_of (2 : Int32) r_54 (fun r_57 => post r_57 g_55))) ∧ ((g_5 5 0 1) = 0 → post (1 : Int32) g_5))) ∧ (¬ x_8 = (10 : Int32) → ¬ x_8 = (11 : Int32) → ¬ x_8 = (12 : Int32) → ¬ x_8 = (13 : Int32) → ¬ x_8 = (14 : Int32) → ¬ x_8 = (15 : Int32) → ¬ x_8 = (16 : Int32) → ¬ x_8 = (17 : Int32) → ¬ x_8 = (18 : Int32) → ¬ x_8 = (19 : Int32) → ¬ x_8 = (20 : Int32) → ¬ x_8 = (21 : Int32) → ¬ x_8 = (22 : Int32) → ¬ x_8 = (23 : Int32) → V_X7_computed N x1 r_1 r_4 g_5 (fun r_58 g_59 => post r_58 g_59)))))
section OP
variable {x : Cx} {G0 G : SG} {N : Nat} {φ : Nat → Nat} {b lo hi : Nat} {sv : Nat → Option Va} {rc : Nat → Va × Va} {hp : Nat → Option Ob} {out : List Nat} {inp : List Int} {cn : Nat → Int32} {LV LC LK : List Gw} {p n i : Nat} {post : Int32 → SG → Prop}
theorem c_peek0 {M : Nat} {g : St} {l : List Int32} {R : Int32 → St → Prop} (hg : StkR g l) (hl : l.length < 1000000) (k : R 1 g) : V_X8_peek M (-2 : Int32) g R := by
  unfold V_X8_peek
  rw [hg.1, nI_m1, show (-2 : Int32) = iI (-2) from rfl, iI_sub, show (l.length : Int) - 1 - -2 = ((l.length + 1 : Nat) : Int) by omega, iI_nat]
  exact v_atOut hg (by omega) (by omega) k
theorem c_ans0 {op : Nat} {R : Int32 → SG → Prop} (hg : StkR (G 9) (LV.map (gw φ))) (hl : LV.length ≤ 1550) (k : AnsB N n op 0 1 1 G R) : V_X7_answerOf N n op 0 G R := by
  unfold V_X7_answerOf
  refine v_peekTop hg (by rw [List.length_map]; omega) (eqI ?_)
  rw [show uo G 9 (G 9) = G from uo_id rfl]
  refine c_peek0 hg (by rw [List.length_map]; omega) (eqI ?_)
  rw [show uo G 9 (G 9) = G from uo_id rfl]
  exact k
theorem c_ans1 {op : Nat} {y : Gw} {R : Int32 → SG → Prop} (hg : StkR (G 9) ((y :: LV).map (gw φ))) (hl : LV.length < 1550) (k : AnsB N n op 1 (gw φ y) 1 G R) : V_X7_answerOf N n op 1 G R := by
  unfold V_X7_answerOf
  refine v_peek (b := 0) hg (by simp) (by rw [List.length_map]; show LV.length + 1 ≤ 1550; omega) (by decide) (eqI ?_)
  rw [show uo G 9 (G 9) = G from uo_id rfl]
  refine v_peekTop hg (by rw [List.length_map]; show LV.length + 1 < 2 ^ 31; omega) (eqI ?_)
  rw [show uo G 9 (G 9) = G from uo_id rfl]
  exact k
theorem c_ansM {op m : Nat} {y z : Gw} {L0 : List Gw} {R : Int32 → SG → Prop} (hg : StkR (G 9) ((L0 ++ z :: y :: LV).map (gw φ))) (hl : (L0 ++ z :: y :: LV).length ≤ 1550) (hm : L0.length + 2 = m) (k : AnsB N n op (nI m) (gw φ y) (gw φ z) G R) : V_X7_answerOf N n op (nI m) G R := by
  have hl2 : (L0 ++ z :: y :: LV).length = L0.length + (LV.length + 2) := by rw [List.length_append]; rfl
  have e1 : ((L0 ++ z :: y :: LV).map (gw φ)).getD (m - 1) 0 = gw φ y := by
    rw [List.getD_eq_getElem?_getD, List.getElem?_map, List.getElem?_append_right (by omega), show m - 1 - L0.length = 1 by omega]; rfl
  have e2 : ((L0 ++ z :: y :: LV).map (gw φ)).getD (m - 2) 0 = gw φ z := by
    rw [List.getD_eq_getElem?_getD, List.getElem?_map, List.getElem?_append_right (by omega), show m - 2 - L0.length = 0 by omega]; rfl
  unfold V_X7_answerOf
  rw [show (1 : Int32) = nI 1 from rfl, nI_sub (by omega), show (2 : Int32) = nI 2 from rfl, nI_sub (by omega)]
  refine v_peek hg (by rw [List.length_map, hl2]; omega) (by rw [List.length_map]; exact hl) (by decide) (eqI ?_)
  rw [show uo G 9 (G 9) = G from uo_id rfl, e1]
  refine v_peek hg (by rw [List.length_map, hl2]; omega) (by rw [List.length_map]; exact hl) (by decide) (eqI ?_)
  rw [show uo G 9 (G 9) = G from uo_id rfl, e2]
  exact k
end OP
section OQ
variable {x : Cx} {G0 : SG} {N : Nat} {cv cf : Int32} {sv : Nat → Option Va} {rc : Nat → Va × Va} {hp : Nat → Option Ob} {out : List Nat} {inp : List Int} {cn : Nat → Int32}
/-- an operator comes to a value; the world stays -/
theorem s_opV {K : List Fr} {op i st e q p D p1 : Nat} {sc : List (List Nat)} {vs : List Va} {v w : Va} (hX : XC x G0 N) (hF : OpF x sv rc hp out inp cn K op i st e q p D p1 sc (v :: vs)) (hw : VV x.K x.C hp w)
    (hC : ∀ (φ : Nat → Nat) (b lo hi : Nat) (G : SG) (n p2 : Nat) (R : Int32 → SG → Prop), CG x G0 φ b lo hi sv rc hp out inp cn ((v :: vs).map gv ++ (cvl K).map gv) (ccl K) (cat K) p2 G → 10000 ≤ n → R (gw φ (gv w)) G → V_X7_answerOf N n op (nI (v :: vs).length) G R)
    (hR : ∀ (g : St) (k : StL) (n : Nat) (R : Int32 → St → StL → Prop), MW x cv cf sv rc hp out inp cn g k → VlM g ((v :: vs) ++ allv K) → g 0 13 = nI ((v :: vs) ++ allv K).length → 20000 ≤ n → R (enc w) g k → RefO n op (allv K).length g k R) : Stq x G0 N cv cf ((1, p, v), (op, i, [], st, e, q, vs) :: K, sv, rc, hp, out, inp, cn) := by
  obtain ⟨hW, hCt, hCt1, hVV, h9, h32, f1, f2, f3, h7, c1, c2, c3, eq, hq, hK, l1, l2, l3, l4, l5, hGd⟩ := id hF
  have htp := hX.1.2.2.2.2.2.2
  have f3 : vs.length + 1 ≤ 4 := f3
  refine s_op (A1 := ((1, q, w), K, sv, rc, hp, out, inp, cn)) hX hF ⟨hW, hCt1, hw, sc, Cn_mono K q _ 1 sc (by omega) hK⟩ ?_ ?_ ?_
  · show _ + K.length + 2 < _ + (K.length + 1) + 2
    omega
  · intro φ b lo hi G post n i2 hG hn hi2 kk
    obtain ⟨n, rfl⟩ : ∃ n', n = n' + 1 := ⟨n - 1, by omega⟩
    refine i_app (n := n) hX hG (by omega) (by omega) h32 c1 c2 c3 (fun G1 g1 w1 => hC φ b lo hi G1 n _ _ g1 (by omega) ?_)
    refine c_settle (y := gv w) g1 w1 (by rw [List.length_map]) ?_ (by rw [List.length_map]; omega) (fun G2 g2 w2 => af0 w2 (kk G2 n (i2 + 1) ⟨φ, b, lo, hi, by rw [eq]; exact g2⟩ (by omega) (by omega)))
    rw [List.length_append, List.length_map, List.length_map]
    show vs.length + 1 + (cvl K).length ≤ 1550
    omega
  · intro g k post n hM hK2 h17 hn kk
    refine hR g k n _ hM hK2.2.2.2.2.1 hK2.2.1 hn ⟨fun c => absurd hK2.2.2.2.2.2 c, fun _ => ?_⟩
    exact r_pop hM hK2 (by omega) (by omega) (fun g3 s1 s2 s3 s4 s5 => kk g3 k ⟨s1, s2, s3, s4⟩)
/-- an operator fails -/
theorem s_opE {K : List Fr} {op i st e q p D p1 er : Nat} {sc : List (List Nat)} {vs : List Va} {v : Va} (hX : XC x G0 N) (hF : OpF x sv rc hp out inp cn K op i st e q p D p1 sc (v :: vs)) (he : 0 < er) (he2 : er ≤ 6)
    (hC : ∀ (φ : Nat → Nat) (b lo hi : Nat) (G : SG) (n p2 : Nat) (R : Int32 → SG → Prop), CG x G0 φ b lo hi sv rc hp out inp cn ((v :: vs).map gv ++ (cvl K).map gv) (ccl K) (cat K) p2 G → 10000 ≤ n → (∀ r, R r (uo G 4 (us (G 4) 2 (nI er)))) → V_X7_answerOf N n op (nI (v :: vs).length) G R)
    (hR : ∀ (g : St) (k : StL) (n : Nat) (R : Int32 → St → StL → Prop), MW x cv cf sv rc hp out inp cn g k → VlM g ((v :: vs) ++ allv K) → g 0 13 = nI ((v :: vs) ++ allv K).length → 20000 ≤ n → (∀ r, R r (us g 18 (nI er)) k) → RefO n op (allv K).length g k R) : Stq x G0 N cv cf ((1, p, v), (op, i, [], st, e, q, vs) :: K, sv, rc, hp, out, inp, cn) := by
  obtain ⟨hW, hCt, hCt1, hVV, h9, h32, f1, f2, f3, h7, c1, c2, c3, eq, hq, hK, l1, l2, l3, l4, l5, hGd⟩ := id hF
  have htp := hX.1.2.2.2.2.2.2
  have f3 : vs.length + 1 ≤ 4 := f3
  refine s_op (A1 := ((er + 2, 0, none), [], sv, rc, hp, out, inp, cn)) hX hF ⟨hW, he, he2⟩ ?_ ?_ ?_
  · show 0 < _ + (K.length + 1) + 2
    omega
  · intro φ b lo hi G post n i2 hG hn hi2 kk
    obtain ⟨n, rfl⟩ : ∃ n', n = n' + 1 := ⟨n - 1, by omega⟩
    refine i_app (n := n) hX hG (by omega) (by omega) h32 c1 c2 c3 (fun G1 g1 w1 => hC φ b lo hi G1 n _ _ g1 (by omega) (fun r => ?_))
    have hE := CGflt (e := er) g1 ⟨by rw [List.length_append, List.length_map, List.length_map]; show vs.length + 1 + (cvl K).length ≤ 1550; omega, l3, l4⟩
    exact c_settleX hE he (by omega) (af0 w1 (kk _ n (i2 + 1) ⟨φ, b, lo, hi, hE⟩ (by omega) (by omega)))
  · intro g k post n hM hK2 h17 hn kk
    refine hR g k n _ hM hK2.2.2.2.2.1 hK2.2.1 hn (fun r => ⟨fun _ => kk _ k ⟨MW_us hM (by decide) (by decide) (by decide), rfl⟩, fun c => ?_⟩)
    have c : nI er = 0 := c
    exact absurd ((nI_eq (b := 0) (by omega) (by decide)).mp c) (by omega)
end OQ
