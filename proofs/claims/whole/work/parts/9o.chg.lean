-- ===== operators that change what is there =====
def rcU (rc : Nat → Va × Va) (i part : Nat) (v : Va) : Nat → Va × Va := fun k => if k = i then (if part = 0 then (v, (rc k).2) else ((rc k).1, v)) else rc k
theorem rcU_ne {rc : Nat → Va × Va} {i part k : Nat} {v : Va} (h : k ≠ i) : rcU rc i part v k = rc k := if_neg h
theorem rcU_0 {rc : Nat → Va × Va} {i : Nat} {v : Va} : rcU rc i 0 v i = (v, (rc i).2) := by unfold rcU; rw [if_pos rfl, if_pos rfl]
theorem rcU_1 {rc : Nat → Va × Va} {i : Nat} {v : Va} : rcU rc i 1 v i = ((rc i).1, v) := by unfold rcU; rw [if_pos rfl, if_neg (by decide)]
section WU
variable {x : Cx} {sv : Nat → Option Va} {rc : Nat → Va × Va} {hp : Nat → Option Ob} {out : List Nat} {inp : List Int}
theorem PW_rc {i c part : Nat} {v : Va} (hW : PW x sv rc hp out inp) (hK : x.K i c) (hC : ¬ x.C i) (hp2 : part = 0 ∨ part = 1) (hv : VV x.K x.C hp v) : PW x sv (rcU rc i part v) hp out inp := by
  obtain ⟨h1, h2, h3, h4, h5, h6⟩ := hW
  have cs : ∀ (P : Va → Prop) k, P (rc k).1 ∧ P (rc k).2 → (k = i → P v) → P (rcU rc i part v k).1 ∧ P (rcU rc i part v k).2 := by
    intro P k hk hv
    by_cases e : k = i
    · subst e
      rcases hp2 with rfl | rfl
      · rw [rcU_0]; exact ⟨hv rfl, hk.2⟩
      · rw [rcU_1]; exact ⟨hk.1, hv rfl⟩
    · rw [rcU_ne e]; exact hk
  refine ⟨h1, fun k y hk hc => cs _ k (h2 k y hk hc) (fun _ => hv), fun k hk => ?_, fun k hk => cs _ k (h4 k hk) (fun _ => hv.ok), fun k hk => cs (fun w => made w → ∃ y, x.K k y) k (h5 k hk) (fun e _ => ⟨c, by rw [e]; exact hK⟩), h6⟩
  rw [rcU_ne (fun e => hC (by rw [← e]; exact hk))]; exact h3 k hk
end WU
theorem RdC_rc {h : St} {rc : Nat → Va × Va} {rn ft lo hi i c part : Nat} {φ : Nat → Nat} {K : Nat → Nat → Prop} {v : Va} (hR : RdC h rc rn rn ft φ K lo hi) (hK : K i c) (hft : ft ≤ 1000) (hp2 : part = 0 ∨ part = 1) : RdC (up (us (us h 3 (nI (if 2 * c + part < lo then 2 * c + part else lo))) 4 (nI (if hi < 2 * c + part + 1 then 2 * c + part + 1 else hi))) 1 (2 * c + part) (cw φ v)) (rcU rc i part v) rn rn ft φ K (if 2 * c + part < lo then 2 * c + part else lo) (if hi < 2 * c + part + 1 then 2 * c + part + 1 else hi) := by
  obtain ⟨q1, q2, q3, q4, q5, q6, q7, q8, q9, q10, q11, q12, q13, q14⟩ := hR
  have hcf := (q9 i c hK).2
  have hp3 : part ≤ 1 := by omega
  refine ⟨q1, q2, rfl, rfl, by split <;> omega, by split <;> omega, q7, q8, q9, q10, q11, q12, fun k y hy => ?_, fun k hk => ?_⟩
  · have hy : K k y := by
      rcases hy with hy | hy
      · exact hy
      · omega
    obtain ⟨w1, w2⟩ := q13 k y (Or.inl hy)
    show upd (h 1) (2 * c + part) (cw φ v) (2 * y) = _ ∧ upd (h 1) (2 * c + part) (cw φ v) (2 * y + 1) = _
    by_cases e : k = i
    · subst e
      have ey := q10 k y c hy hK
      subst ey
      rcases hp2 with rfl | rfl
      · rw [rcU_0]
        refine ⟨?_, ?_⟩
        · exact updE _ _ _
        · rw [updN _ _ (by omega)]; exact w2
      · rw [rcU_1]
        refine ⟨?_, ?_⟩
        · rw [updN _ _ (by omega)]; exact w1
        · exact updE _ _ _
    · have hne : y ≠ c := fun e2 => e (q11 k i c (by rw [← e2]; exact hy) hK)
      rw [rcU_ne e, updN _ _ (by omega), updN _ _ (by omega)]
      exact ⟨w1, w2⟩
  · have old := q14 k hk
    have wid : ∀ (y t : Nat), lo ≤ t → t < hi → (if 2 * c + part < lo then 2 * c + part else lo) ≤ t ∧ t < (if hi < 2 * c + part + 1 then 2 * c + part + 1 else hi) := fun y t a b => by
      constructor
      · split <;> omega
      · split <;> omega
    have here : (if 2 * c + part < lo then 2 * c + part else lo) ≤ 2 * c + part ∧ 2 * c + part < (if hi < 2 * c + part + 1 then 2 * c + part + 1 else hi) := by
      constructor
      · split <;> omega
      · split <;> omega
    by_cases e : k = i
    · subst e
      rcases hp2 with rfl | rfl
      · rw [rcU_0]
        refine ⟨fun _ => ⟨c, hK, here.1, here.2⟩, fun m => ?_⟩
        obtain ⟨y, a, b1, b2⟩ := old.2 m
        exact ⟨y, a, wid y _ b1 b2⟩
      · rw [rcU_1]
        refine ⟨fun m => ?_, fun _ => ⟨c, hK, here.1, here.2⟩⟩
        obtain ⟨y, a, b1, b2⟩ := old.1 m
        exact ⟨y, a, wid y _ b1 b2⟩
    · rw [rcU_ne e]
      refine ⟨fun m => ?_, fun m => ?_⟩
      · obtain ⟨y, a, b1, b2⟩ := old.1 m
        exact ⟨y, a, wid y _ b1 b2⟩
      · obtain ⟨y, a, b1, b2⟩ := old.2 m
        exact ⟨y, a, wid y _ b1 b2⟩
section WV
variable {x : Cx} {G0 : SG} {N : Nat} {cv cf : Int32} {sv : Nat → Option Va} {rc : Nat → Va × Va} {hp : Nat → Option Ob} {out : List Nat} {inp : List Int} {cn : Nat → Int32}
/-- an operator comes to a value, and the world changes -/
theorem s_opW {K : List Fr} {op i st e q p D p1 : Nat} {sc : List (List Nat)} {vs : List Va} {v w : Va} {rc1 : Nat → Va × Va} {hp1 : Nat → Option Ob} {out1 : List Nat} {inp1 : List Int} (hX : XC x G0 N) (hF : OpF x sv rc hp out inp cn K op i st e q p D p1 sc (v :: vs)) (hW1 : PW x sv rc1 hp1 out1 inp1) (hK1 : Cn x hp1 K q (D + 1) sc) (hw : VV x.K x.C hp1 w)
    (hC : ∀ (φ : Nat → Nat) (b lo hi : Nat) (G : SG) (n p2 : Nat) (R : Int32 → SG → Prop), CG x G0 φ b lo hi sv rc hp out inp cn ((v :: vs).map gv ++ (cvl K).map gv) (ccl K) (cat K) p2 G → G 4 0 3 = 0 → 10000 ≤ n → (∀ lo1 hi1 G1, CG x G0 φ b lo1 hi1 sv rc1 hp1 out1 inp1 cn ((v :: vs).map gv ++ (cvl K).map gv) (ccl K) (cat K) p2 G1 → G1 4 0 3 = 0 → R (gw φ (gv w)) G1) → V_X7_answerOf N n op (nI (v :: vs).length) G R)
    (hR : ∀ (g : St) (k : StL) (n : Nat) (R : Int32 → St → StL → Prop), MW x cv cf sv rc hp out inp cn g k → MK ((op, i, [], st, e, q, v :: vs) :: K) g → 20000 ≤ n → (∀ g1, MW x cv cf sv rc1 hp1 out1 inp1 cn g1 k → MK ((op, i, [], st, e, q, v :: vs) :: K) g1 → R (enc w) g1 k) → RefO n op (allv K).length g k R) : Stq x G0 N cv cf ((1, p, v), (op, i, [], st, e, q, vs) :: K, sv, rc, hp, out, inp, cn) := by
  obtain ⟨hW, hCt, hCt1, hVV, h9, h32, f1, f2, f3, h7, c1, c2, c3, eq, hq, hK, l1, l2, l3, l4, l5, hGd⟩ := id hF
  have htp := hX.1.2.2.2.2.2.2
  have f3 : vs.length + 1 ≤ 4 := f3
  refine s_op (A1 := ((1, q, w), K, sv, rc1, hp1, out1, inp1, cn)) hX hF ⟨hW1, hCt1, hw, sc, Cn_mono K q _ 1 sc (by omega) hK1⟩ ?_ ?_ ?_
  · show _ + K.length + 2 < _ + (K.length + 1) + 2
    omega
  · intro φ b lo hi G post n i2 hG hn hi2 kk
    obtain ⟨n, rfl⟩ : ∃ n', n = n' + 1 := ⟨n - 1, by omega⟩
    refine i_app (n := n) hX hG (by omega) (by omega) h32 c1 c2 c3 (fun G1 g1 w1 => hC φ b lo hi G1 n _ _ g1 w1 (by omega) (fun lo1 hi1 G2 g2 w2 => ?_))
    refine c_settle (y := gv w) g2 w2 (by rw [List.length_map]) ?_ (by rw [List.length_map]; omega) (fun G3 g3 w3 => af0 w3 (kk G3 n (i2 + 1) ⟨φ, b, lo1, hi1, by rw [eq]; exact g3⟩ (by omega) (by omega)))
    rw [List.length_append, List.length_map, List.length_map]
    show vs.length + 1 + (cvl K).length ≤ 1550
    omega
  · intro g k post n hM hK2 h17 hn kk
    refine hR g k n _ hM hK2 hn (fun g1 m1 m2 => ⟨fun c => absurd m2.2.2.2.2.2 c, fun _ => ?_⟩)
    exact r_pop m1 m2 (by omega) (by omega) (fun g3 s1 s2 s3 s4 s5 => kk g3 k ⟨s1, s2, s3, s4⟩)
/-- frames stay where rows of the heap or of cells change -/
theorem MK_up {g : St} {Kf : List Fr} {a t : Nat} {w : Int32} (h : MK Kf g) (h1 : a ≠ 0) (h2 : a < 15 ∨ 22 ≤ a) : MK Kf (up g a t w) := by
  obtain ⟨b1, b2, b3, b4, b5, b6⟩ := h
  have e0 : (up g a t w) 0 = g 0 := upB _ _ _ (by omega)
  exact ⟨by rw [e0]; exact b1, by rw [e0]; exact b2, by rw [e0]; exact b3, FrM_fr Kf (fun c c1 c2 t ht => by rw [upB _ _ _ (by omega)]) b4, VlM_fr (fun t ht => by rw [upB _ _ _ (by omega)]) b5, by rw [e0]; exact b6⟩
theorem MW_rc0 {g : St} {k : StL} {i : Nat} {v : Va} (hM : MW x cv cf sv rc hp out inp cn g k) (hv : vok v) : MW x cv cf sv (rcU rc i 0 v) hp out inp cn (up g 6 i (enc v)) k := by
  obtain ⟨a1, a2, a3, a4, a5⟩ := hM
  refine ⟨a1, a2, a3, ⟨a4.1, fun k hk => ?_⟩, a5⟩
  show upd (g 6) i (enc v) k = _ ∧ g 7 k = _ ∧ _
  by_cases e : k = i
  · subst e
    rw [rcU_0, updE]
    exact ⟨rfl, (a4.2 k hk).2.1, hv, (a4.2 k hk).2.2.2⟩
  · rw [rcU_ne e, updN _ _ e]; exact a4.2 k hk
theorem MW_rc1 {g : St} {k : StL} {i : Nat} {v : Va} (hM : MW x cv cf sv rc hp out inp cn g k) (hv : vok v) : MW x cv cf sv (rcU rc i 1 v) hp out inp cn (up g 7 i (enc v)) k := by
  obtain ⟨a1, a2, a3, a4, a5⟩ := hM
  refine ⟨a1, a2, a3, ⟨a4.1, fun k hk => ?_⟩, a5⟩
  show g 6 k = _ ∧ upd (g 7) i (enc v) k = _ ∧ _
  by_cases e : k = i
  · subst e
    rw [rcU_1, updE]
    exact ⟨(a4.2 k hk).1, rfl, (a4.2 k hk).2.2.1, hv⟩
  · rw [rcU_ne e, updN _ _ e]; exact a4.2 k hk
theorem MW_obj {g : St} {k : StL} {s j : Nat} {o o1 : Ob} {w : Int32} (hW : PW x sv rc hp out inp) (hM : MW x cv cf sv rc hp out inp cn g k) (ho : hp s = some o) (hs : s < 168) (hj : j < (ofs o).length) (h1 : osort o1 = osort o) (hl : olen o1 = olen o) (hw : ofs o1 = (ofs o).set j w) : MW x cv cf sv rc (hset hp s o1) out inp cn (up g 10 (8 * s + j) w) k := by
  obtain ⟨a1, a2, a3, a4, a5, a6, a7⟩ := hM
  have hus : usum (hset hp s o1) 168 = usum hp 168 := by
    have := usum_set (hp := hp) (s := s) (o := o1) hs
    have e : olo hp s = olen o := by unfold olo; rw [ho]
    omega
  exact ⟨a1, a2, a3, a4, HpM_upd a5 (PW_olen hW) ho hs hj h1 hl hw, by rw [hus]; exact a6, a7⟩
end WV
section WC
variable {x : Cx} {G0 G : SG} {N : Nat} {φ : Nat → Nat} {b lo hi : Nat} {sv : Nat → Option Va} {rc : Nat → Va × Va} {hp : Nat → Option Ob} {out : List Nat} {inp : List Int} {cn : Nat → Int32} {LV LC LK : List Gw} {p n i : Nat} {post : Int32 → SG → Prop}
/-- the class replaces a word of a read cell -/
theorem CGrc {i9 c part : Nat} {v : Va} (hX : XC x G0 N) (h : CG x G0 φ b lo hi sv rc hp out inp cn LV LC LK p G) (hK : x.K i9 c) (hp2 : part = 0 ∨ part = 1) : CG x G0 φ b (if 2 * c + part < lo then 2 * c + part else lo) (if hi < 2 * c + part + 1 then 2 * c + part + 1 else hi) sv (rcU rc i9 part v) hp out inp cn LV LC LK p (uo G 2 (up (us (us (G 2) 3 (nI (if 2 * c + part < lo then 2 * c + part else lo))) 4 (nI (if hi < 2 * c + part + 1 then 2 * c + part + 1 else hi))) 1 (2 * c + part) (cw φ v))) := by
  obtain ⟨⟨a1, a2, a3, a4, a5, a6, a7, a8, a9, a10, a11, a12, a13, a14, a15, a16⟩, b1, b2, b3, b4, b5, b6⟩ := h
  have hcf := (a2.2.2.2.2.2.2.2.2.1 i9 c hK).2
  have hft := hX.2.2.2
  refine ⟨⟨a1, RdC_rc a2 hK hX.2.2.2 hp2, ⟨fun s o ho => ?_, a3.2⟩, a4, a5, a6, a7, a8, a9, a10, a11, a12, a13, fun o ho => by rw [uoN (by omega)]; exact a14 o ho, a15, a16⟩, b1, b2, b3, b4, b5, b6⟩
  obtain ⟨d1, d2, d3, d4⟩ := a3.1 s o ho
  refine ⟨d1, d2, d3, fun j hj => ?_⟩
  show upd (G 2 1) (2 * c + part) (cw φ v) (φ s + j) = _
  rw [updN _ _ (by rcases a6 with e | e <;> omega)]; exact d4 j hj
theorem c_replL {ad : Nat} {w : Int32} {R : St → Prop} (hX : XC x G0 N) (h : CG x G0 φ b lo hi sv rc hp out inp cn LV LC LK p G) (had : ad < 2048) (k : R (up (us (us (G 2) 3 (nI (if ad < lo then ad else lo))) 4 (nI (if hi < ad + 1 then ad + 1 else hi))) 1 ad w)) : V_X2_replace N (nI ad) w (G 2) R := by
  obtain ⟨q1, q2, q3, q4, q5, q6, -⟩ := h.1.2.1
  have hft := hX.2.2.2
  have hN := hX.2.1
  have hz := hX.1.2.1
  unfold V_X2_replace
  refine ⟨fun c => absurd ((nI_leI (a := 2048) (by decide) (by omega)).mp c) (by omega), fun _ => ?_⟩
  have e3 : (if nI ad < G 2 0 3 then nI ad else G 2 0 3) = nI (if ad < lo then ad else lo) := by
    rw [q3]
    by_cases z : ad < lo
    · rw [if_pos ((nI_ltI (by omega) (by omega)).mpr z), if_pos z]
    · rw [if_neg (fun c => z ((nI_ltI (by omega) (by omega)).mp c)), if_neg z]
  rw [e3]
  refine eqI ?_
  have e4' : (us (G 2) 3 (nI (if ad < lo then ad else lo))) 0 4 = nI hi := q4
  rw [e4', nI_1]
  have e4 : (if nI hi < nI (ad + 1) then nI (ad + 1) else nI hi) = nI (if hi < ad + 1 then ad + 1 else hi) := by
    by_cases z : hi < ad + 1
    · rw [if_pos ((nI_ltI (by omega) (by omega)).mpr z), if_pos z]
    · rw [if_neg (fun c => z ((nI_ltI (by omega) (by omega)).mp c)), if_neg z]
  rw [e4]
  exact eqI (v_put (by omega) (by omega) k)
end WC
section WD
variable {x : Cx} {G0 : SG} {N : Nat} {cv cf : Int32} {sv : Nat → Option Va} {rc : Nat → Va × Va} {hp : Nat → Option Ob} {out : List Nat} {inp : List Int} {cn : Nat → Int32}
theorem s_12 {K : List Fr} {i st e q p D p1 : Nat} {sc : List (List Nat)} {vs : List Va} {v : Va} (hX : XC x G0 N) (hF : OpF x sv rc hp out inp cn K 12 i st e q p D p1 sc (v :: vs)) : Stq x G0 N cv cf ((1, p, v), (12, i, [], st, e, q, vs) :: K, sv, rc, hp, out, inp, cn) := by
  obtain ⟨a, rfl⟩ := two_parts hF rfl rfl
  have hW := hF.1
  have hva : VV x.K x.C hp a := hF.2.2.2.1 a (by simp)
  have hvv : VV x.K x.C hp v := hF.2.2.2.1 v (by simp)
  have hu := hF.1.2.2.2.2.2.2.1
  have l2 := hF.2.2.2.2.2.2.2.2.2.2.2.2.2.2.2.2.2.1
  have ll : ([] ++ gv v :: gv a :: (cvl K).map gv).length ≤ 1550 := by
    show ((cvl K).map gv).length + 1 + 1 ≤ 1550
    rw [List.length_map]; omega
  have hbl : (allv K).length + 2 < 1100 := by
    have := hF.2.2.2.2.2.2.2.2.2.2.2.2.2.2.2.2.2.2.2.2.1
    have : (allv K).length + 2 ≤ 1000 := this
    omega
  have hk7 := va_kd_lt v
  have hk8 := va_kd_lt a
  have pre : ∀ (g : St) (k : StL) (n : Nat) (R : Int32 → St → StL → Prop), VlM g ([v, a] ++ allv K) → (vkd a = 4 → V_X12_setCar (enc a) (enc v) g k (fun g1 k1 => R (enc a) g1 k1)) → (¬ vkd a = 4 → R 1048576 (us g 18 4) k) → RefO n 12 (allv K).length g k R := fun g k n R hV k1 k0 => by
    refine ⟨fun _ => ?_, fun c => absurd c (by decide), fun c => absurd c (by decide)⟩
    obtain ⟨e1, e2⟩ := vl_2 (l := allv K) hV
    unfold V_X12_lists
    rw [nI_clamp (by omega), e1]
    refine ⟨vp_in_nI (by omega) (by decide), eqI (r_sort hva.ok ⟨fun _ => ⟨fun c => absurd c (by decide), fun _ => ⟨fun _ => ⟨fun _ => ?_, fun c => absurd (by decide) c⟩, fun c => absurd c (by decide)⟩⟩, fun c => absurd c (by decide)⟩)⟩
    unfold V_X12_lists_188 V_X12_fail
    rw [nI_1, nI_clamp (by omega), e2]
    refine ⟨fun c4 => ⟨fun _ => ⟨fun _ => ⟨fun c => absurd rfl c, fun _ => ⟨vp_in_nI (by omega) (by decide), ?_⟩⟩, fun c => absurd c (by decide)⟩, fun c => absurd c (by decide)⟩, fun c4 => eqI (k0 (fun h => c4 (by rw [h]; rfl)))⟩
    exact k1 ((nI_eq (b := 4) (by omega) (by decide)).mp c4)
  have cls : ∀ (φ : Nat → Nat) (b lo hi : Nat) (G : SG) (n p2 : Nat) (R : Int32 → SG → Prop), CG x G0 φ b lo hi sv rc hp out inp cn ([v, a].map gv ++ (cvl K).map gv) (ccl K) (cat K) p2 G → (vkd a = 4 → V_X2_replace N (iI (hld φ a) + 0) (cw φ v) (G 2) (fun u => ∀ g : SG, g = uo G 2 u → R (cw φ a) g)) → (¬ vkd a = 4 → R 1 (uo G 4 (us (G 4) 2 4))) → V_X7_answerOf N n 12 2 G R := fun φ b lo hi G n p2 R hG k1 k0 => by
    refine c_ansM (L0 := []) (m := 2) hG.2.1 ll rfl ?_
    unfold AnsB
    refine ⟨by decide, vp_in_nI (n := 12) (by decide) (by decide), eqI ⟨fun c => absurd c (by decide), fun c => absurd c (by decide), fun c => absurd c (by decide), fun c => absurd c (by decide), fun _ => ?_, fun c => absurd c (by decide), fun c => absurd c (by decide), fun c => absurd c (by decide), fun c => absurd c (by decide), fun c => absurd c (by decide), fun c => absurd c (by decide), fun c => absurd c (by decide), fun c => absurd c (by decide), fun c => absurd c (by decide), fun c10 c11 c12 c13 c14 c15 c16 c17 c18 c19 c20 c21 c22 c23 => absurd rfl c14⟩⟩
    unfold V_X7_replaced V_X7_failing
    exact c_tag hva (CWd.rng hX hu hG.1) ⟨fun c => c_held hva (CWd.rng hX hu hG.1) (k1 ((nI_eq (b := 4) (by omega) (by decide)).mp c)), fun c => eqI (k0 (fun h => c (by rw [h]; rfl)))⟩
  by_cases h4 : vkd a = 4
  case neg => exact s_opE (er := 4) hX hF (by decide) (by decide) (fun φ b lo hi G n p2 R hG hn kk => cls φ b lo hi G n p2 R hG (fun c => absurd c h4) (fun _ => kk _)) (fun g k n R hM hV h13 hn kk => pre g k n R hV (fun c => absurd c h4) (fun _ => kk _))
  obtain ⟨pr, hc⟩ := cel_of (rc := rc) hva h4
  rcases hc with ⟨i9, c9, rfl, -⟩ | ⟨s, rfl, ho⟩
  · obtain ⟨k1, k2, k3, k4⟩ := id hva
    refine s_opW (w := vrd i9 c9) (rc1 := rcU rc i9 0 v) hX hF (PW_rc hW k1 k2 (by decide) hvv) hF.2.2.2.2.2.2.2.2.2.2.2.2.2.2.2.1 hva (fun φ b lo hi G n p2 R hG hw hn kk => cls φ b lo hi G n p2 R hG (fun _ => ?_) (fun c => absurd h4 c)) (fun g k n R hM hK2 hn kk => pre g k n R hK2.2.2.2.2.1 (fun _ => ?_) (fun c => absurd h4 c))
    · have e1 : iI (hld φ (vrd i9 c9)) + 0 = nI (2 * c9 + 0) := by
        show iI ((2 * c9 : Nat) : Int) + nI 0 = _
        rw [iI_nat, nI_add]
      rw [e1]
      have hy := (hX.1.2.2.2.2.1 i9 c9 k1).2
      exact c_replL hX hG (by omega) (eqI (kk _ _ _ (CGrc hX hG k1 (by decide)) hw))
    · have hir := (hX.1.2.2.2.2.1 i9 c9 k1).1
      have hrn := hX.1.2.2.2.2.2.1
      unfold V_X12_setCar
      refine r_load hva.ok ⟨fun c => absurd ((nI_leI (a := 2000) (b := i9) (by decide) (by omega)).mp c) (by omega), fun _ => r_load hva.ok ?_⟩
      rw [show (nI (vld (vrd i9 c9))).toNatClampNeg = i9 from nI_clamp (n := i9) (by omega)]
      exact ⟨vp_in_nI (n := i9) (by omega) (by decide), eqI (kk _ (MW_rc0 hM hvv.ok) (MK_up hK2 (by decide) (by decide)))⟩
  · obtain ⟨a9, d9⟩ := pr
    have ho : hp s = some (ocel a9 d9) := ho
    have hs : s < 168 := hva.1
    have hk : skd (ocel a9 d9) (ocel v d9) := trivial
    have hO := (hW.2.2.2.2.2.1 s _ ho).2
    refine s_opW (w := vcel s) (hp1 := hset hp s (ocel v d9)) hX hF (PW_set hW ho hk rfl ⟨VV_set ho hk hvv, VV_set ho hk hO.2⟩) (Cn_set ho hk hF.2.2.2.2.2.2.2.2.2.2.2.2.2.2.2.1) (VV_set ho hk hva) (fun φ b lo hi G n p2 R hG hw hn kk => cls φ b lo hi G n p2 R hG (fun _ => ?_) (fun c => absurd h4 c)) (fun g k n R hM hK2 hn kk => pre g k n R hK2.2.2.2.2.1 (fun _ => ?_) (fun c => absurd h4 c))
    · obtain ⟨-, z2, z3, -⟩ := hG.1.2.2.1.1 s _ ho
      have z3 : φ s + 2 ≤ b + usum hp 168 := z3
      obtain ⟨n1, n2, n3⟩ := CG_N hX hG
      have e1 : iI (hld φ (vcel s)) + 0 = nI (φ s + 0) := by
        show iI ((φ s : Nat) : Int) + nI 0 = _
        rw [iI_nat, nI_add]
      rw [e1]
      unfold V_X2_replace
      refine ⟨fun _ => v_put (by omega) (by omega) (eqI (kk _ _ _ (CGobj hX hs hG ho (by show 0 < 2; decide) rfl rfl) hw)), fun c => absurd (nI_le (a := 2048) (b := φ s + 0) (by omega) (by omega)) c⟩
    · unfold V_X12_setCar
      refine r_load hva.ok ⟨fun _ => r_load hva.ok ?_, fun c => absurd (nI_le (a := 2000) (b := 2000 + s) (by omega) (by omega)) c⟩
      rw [show (nI (vld (vcel s))) = nI (2000 + s) from rfl, show (2000 : Int32) = nI 2000 from rfl, nI_sub (by omega), show 2000 + s - 2000 = s by omega, show (8 : Int32) = nI 8 from rfl, nI_mul, nI_clamp (by omega)]
      exact ⟨vp_in_nI (by omega) (by decide), eqI (kk _ (MW_obj (j := 0) hW hM ho hs (by show 0 < 2; decide) rfl rfl rfl) (MK_up hK2 (by decide) (by decide)))⟩
theorem s_13 {K : List Fr} {i st e q p D p1 : Nat} {sc : List (List Nat)} {vs : List Va} {v : Va} (hX : XC x G0 N) (hF : OpF x sv rc hp out inp cn K 13 i st e q p D p1 sc (v :: vs)) : Stq x G0 N cv cf ((1, p, v), (13, i, [], st, e, q, vs) :: K, sv, rc, hp, out, inp, cn) := by
  obtain ⟨a, rfl⟩ := two_parts hF rfl rfl
  have hW := hF.1
  have hva : VV x.K x.C hp a := hF.2.2.2.1 a (by simp)
  have hvv : VV x.K x.C hp v := hF.2.2.2.1 v (by simp)
  have hu := hF.1.2.2.2.2.2.2.1
  have l2 := hF.2.2.2.2.2.2.2.2.2.2.2.2.2.2.2.2.2.1
  have ll : ([] ++ gv v :: gv a :: (cvl K).map gv).length ≤ 1550 := by
    show ((cvl K).map gv).length + 1 + 1 ≤ 1550
    rw [List.length_map]; omega
  have hbl : (allv K).length + 2 < 1100 := by
    have := hF.2.2.2.2.2.2.2.2.2.2.2.2.2.2.2.2.2.2.2.2.1
    have : (allv K).length + 2 ≤ 1000 := this
    omega
  have hk7 := va_kd_lt v
  have hk8 := va_kd_lt a
  have pre : ∀ (g : St) (k : StL) (n : Nat) (R : Int32 → St → StL → Prop), VlM g ([v, a] ++ allv K) → (vkd a = 4 → V_X12_setCdr (enc a) (enc v) g k (fun g1 k1 => R (enc a) g1 k1)) → (¬ vkd a = 4 → R 1048576 (us g 18 4) k) → RefO n 13 (allv K).length g k R := fun g k n R hV k1 k0 => by
    refine ⟨fun _ => ?_, fun c => absurd c (by decide), fun c => absurd c (by decide)⟩
    obtain ⟨e1, e2⟩ := vl_2 (l := allv K) hV
    unfold V_X12_lists
    rw [nI_clamp (by omega), e1]
    refine ⟨vp_in_nI (by omega) (by decide), eqI (r_sort hva.ok ⟨fun _ => ⟨fun c => absurd c (by decide), fun _ => ⟨fun _ => ⟨fun _ => ?_, fun c => absurd (by decide) c⟩, fun c => absurd c (by decide)⟩⟩, fun c => absurd c (by decide)⟩)⟩
    unfold V_X12_lists_188 V_X12_fail
    rw [nI_1, nI_clamp (by omega), e2]
    refine ⟨fun c4 => ⟨fun _ => ⟨fun _ => ⟨fun _ => ⟨vp_in_nI (by omega) (by decide), ?_⟩, fun c => absurd c (by decide)⟩, fun c => absurd c (by decide)⟩, fun c => absurd c (by decide)⟩, fun c4 => eqI (k0 (fun h => c4 (by rw [h]; rfl)))⟩
    exact k1 ((nI_eq (b := 4) (by omega) (by decide)).mp c4)
  have cls : ∀ (φ : Nat → Nat) (b lo hi : Nat) (G : SG) (n p2 : Nat) (R : Int32 → SG → Prop), CG x G0 φ b lo hi sv rc hp out inp cn ([v, a].map gv ++ (cvl K).map gv) (ccl K) (cat K) p2 G → (vkd a = 4 → V_X2_replace N (iI (hld φ a) + 1) (cw φ v) (G 2) (fun u => ∀ g : SG, g = uo G 2 u → R (cw φ a) g)) → (¬ vkd a = 4 → R 1 (uo G 4 (us (G 4) 2 4))) → V_X7_answerOf N n 13 2 G R := fun φ b lo hi G n p2 R hG k1 k0 => by
    refine c_ansM (L0 := []) (m := 2) hG.2.1 ll rfl ?_
    unfold AnsB
    refine ⟨by decide, vp_in_nI (n := 13) (by decide) (by decide), eqI ⟨fun c => absurd c (by decide), fun c => absurd c (by decide), fun c => absurd c (by decide), fun c => absurd c (by decide), fun c => absurd c (by decide), fun _ => ?_, fun c => absurd c (by decide), fun c => absurd c (by decide), fun c => absurd c (by decide), fun c => absurd c (by decide), fun c => absurd c (by decide), fun c => absurd c (by decide), fun c => absurd c (by decide), fun c => absurd c (by decide), fun c10 c11 c12 c13 c14 c15 c16 c17 c18 c19 c20 c21 c22 c23 => absurd rfl c15⟩⟩
    unfold V_X7_replaced V_X7_failing
    exact c_tag hva (CWd.rng hX hu hG.1) ⟨fun c => c_held hva (CWd.rng hX hu hG.1) (k1 ((nI_eq (b := 4) (by omega) (by decide)).mp c)), fun c => eqI (k0 (fun h => c (by rw [h]; rfl)))⟩
  by_cases h4 : vkd a = 4
  case neg => exact s_opE (er := 4) hX hF (by decide) (by decide) (fun φ b lo hi G n p2 R hG hn kk => cls φ b lo hi G n p2 R hG (fun c => absurd c h4) (fun _ => kk _)) (fun g k n R hM hV h13 hn kk => pre g k n R hV (fun c => absurd c h4) (fun _ => kk _))
  obtain ⟨pr, hc⟩ := cel_of (rc := rc) hva h4
  rcases hc with ⟨i9, c9, rfl, -⟩ | ⟨s, rfl, ho⟩
  · obtain ⟨k1, k2, k3, k4⟩ := id hva
    refine s_opW (w := vrd i9 c9) (rc1 := rcU rc i9 1 v) hX hF (PW_rc hW k1 k2 (by decide) hvv) hF.2.2.2.2.2.2.2.2.2.2.2.2.2.2.2.1 hva (fun φ b lo hi G n p2 R hG hw hn kk => cls φ b lo hi G n p2 R hG (fun _ => ?_) (fun c => absurd h4 c)) (fun g k n R hM hK2 hn kk => pre g k n R hK2.2.2.2.2.1 (fun _ => ?_) (fun c => absurd h4 c))
    · have e1 : iI (hld φ (vrd i9 c9)) + 1 = nI (2 * c9 + 1) := by
        show iI ((2 * c9 : Nat) : Int) + nI 1 = _
        rw [iI_nat, nI_add]
      rw [e1]
      have hy := (hX.1.2.2.2.2.1 i9 c9 k1).2
      exact c_replL hX hG (by omega) (eqI (kk _ _ _ (CGrc hX hG k1 (by decide)) hw))
    · have hir := (hX.1.2.2.2.2.1 i9 c9 k1).1
      have hrn := hX.1.2.2.2.2.2.1
      unfold V_X12_setCdr
      refine r_load hva.ok ⟨fun c => absurd ((nI_leI (a := 2000) (b := i9) (by decide) (by omega)).mp c) (by omega), fun _ => r_load hva.ok ?_⟩
      rw [show (nI (vld (vrd i9 c9))).toNatClampNeg = i9 from nI_clamp (n := i9) (by omega)]
      exact ⟨vp_in_nI (n := i9) (by omega) (by decide), eqI (kk _ (MW_rc1 hM hvv.ok) (MK_up hK2 (by decide) (by decide)))⟩
  · obtain ⟨a9, d9⟩ := pr
    have ho : hp s = some (ocel a9 d9) := ho
    have hs : s < 168 := hva.1
    have hk : skd (ocel a9 d9) (ocel a9 v) := trivial
    have hO := (hW.2.2.2.2.2.1 s _ ho).2
    refine s_opW (w := vcel s) (hp1 := hset hp s (ocel a9 v)) hX hF (PW_set hW ho hk rfl ⟨VV_set ho hk hO.1, VV_set ho hk hvv⟩) (Cn_set ho hk hF.2.2.2.2.2.2.2.2.2.2.2.2.2.2.2.1) (VV_set ho hk hva) (fun φ b lo hi G n p2 R hG hw hn kk => cls φ b lo hi G n p2 R hG (fun _ => ?_) (fun c => absurd h4 c)) (fun g k n R hM hK2 hn kk => pre g k n R hK2.2.2.2.2.1 (fun _ => ?_) (fun c => absurd h4 c))
    · obtain ⟨-, z2, z3, -⟩ := hG.1.2.2.1.1 s _ ho
      have z3 : φ s + 2 ≤ b + usum hp 168 := z3
      obtain ⟨n1, n2, n3⟩ := CG_N hX hG
      have e1 : iI (hld φ (vcel s)) + 1 = nI (φ s + 1) := by
        show iI ((φ s : Nat) : Int) + nI 1 = _
        rw [iI_nat, nI_add]
      rw [e1]
      unfold V_X2_replace
      refine ⟨fun _ => v_put (by omega) (by omega) (eqI (kk _ _ _ (CGobj hX hs hG ho (by show 1 < 2; decide) rfl rfl) hw)), fun c => absurd (nI_le (a := 2048) (b := φ s + 1) (by omega) (by omega)) c⟩
    · unfold V_X12_setCdr
      refine r_load hva.ok ⟨fun _ => r_load hva.ok ?_, fun c => absurd (nI_le (a := 2000) (b := 2000 + s) (by omega) (by omega)) c⟩
      rw [show (nI (vld (vcel s))) = nI (2000 + s) from rfl, show (2000 : Int32) = nI 2000 from rfl, nI_sub (by omega), show 2000 + s - 2000 = s by omega, show (8 : Int32) = nI 8 from rfl, nI_mul, nI_1, nI_clamp (by omega)]
      exact ⟨vp_in_nI (by omega) (by decide), eqI (kk _ (MW_obj (j := 1) hW hM ho hs (by show 1 < 2; decide) rfl rfl rfl) (MK_up hK2 (by decide) (by decide)))⟩
theorem three_parts {K : List Fr} {op i st e q p D p1 : Nat} {sc : List (List Nat)} {vs : List Va} {v : Va} (hF : OpF x sv rc hp out inp cn K op i st e q p D p1 sc (v :: vs)) (h2 : FEWL.getD op 0 = 3) (h3 : MOSTL.getD op 0 = 3) : ∃ c a, vs = [c, a] := by
  obtain ⟨-, -, -, -, -, -, f1, f2, f3, -⟩ := hF
  rw [h2] at f1
  rw [h3] at f2
  have g1 := (nI_leI (a := 3) (b := (v :: vs).length) (by decide) (by omega)).mp f1
  have g2 := (nI_leI (a := (v :: vs).length) (b := 3) (by omega) (by decide)).mp f2
  match vs, g1, g2 with
  | [c, a], _, _ => exact ⟨c, a, rfl⟩
  | [], h, _ => exact absurd h (show ¬ 3 ≤ 1 by decide)
  | [a], h, _ => exact absurd h (show ¬ 3 ≤ 2 by decide)
  | a :: b :: c :: r, _, h =>
    have h : r.length + 4 ≤ 3 := h
    exact absurd h (by omega)
theorem s_28 {K : List Fr} {i st e q p D p1 : Nat} {sc : List (List Nat)} {vs : List Va} {v : Va} (hX : XC x G0 N) (hF : OpF x sv rc hp out inp cn K 28 i st e q p D p1 sc (v :: vs)) : Stq x G0 N cv cf ((1, p, v), (28, i, [], st, e, q, vs) :: K, sv, rc, hp, out, inp, cn) := by
  obtain ⟨c, a, rfl⟩ := three_parts hF rfl rfl
  have hW := hF.1
  have hva : VV x.K x.C hp a := hF.2.2.2.1 a (by simp)
  have hvc : VV x.K x.C hp c := hF.2.2.2.1 c (by simp)
  have hvv : VV x.K x.C hp v := hF.2.2.2.1 v (by simp)
  have hu := hF.1.2.2.2.2.2.2.1
  have l2 := hF.2.2.2.2.2.2.2.2.2.2.2.2.2.2.2.2.2.1
  have ll : ([gv v] ++ gv c :: gv a :: (cvl K).map gv).length ≤ 1550 := by
    show ((cvl K).map gv).length + 1 + 1 + 1 ≤ 1550
    rw [List.length_map]; omega
  have hbl : (allv K).length + 3 < 1100 := by
    have := hF.2.2.2.2.2.2.2.2.2.2.2.2.2.2.2.2.2.2.2.2.1
    have : (allv K).length + 3 ≤ 1000 := this
    omega
  have hk7 := va_kd_lt c
  have hk8 := va_kd_lt a
  have pre : ∀ (g : St) (k : StL) (n : Nat) (R : Int32 → St → StL → Prop), MW x cv cf sv rc hp out inp cn g k → VlM g ([v, c, a] ++ allv K) → (¬ (vkd a = 5 ∧ vkd c = 2) → R 1048576 (us g 18 4) k) → (∀ s l m, a = vvec s → s < 168 → hp s = some (ovec l) → c = vnum m → i16 m → ¬ (0 ≤ m ∧ m < (l.length : Int)) → R 1048576 (us g 18 6) k) → (∀ s l (j : Nat), a = vvec s → s < 168 → hp s = some (ovec l) → c = vnum (j : Int) → j < l.length → R (enc v) (up g 10 (8 * s + j) (enc v)) k) → RefO n 28 (allv K).length g k R := fun g k n R hM hV k4 k6 k1 => by
    refine ⟨fun c => absurd c (by decide), fun _ c => absurd c (by decide), fun _ => ?_⟩
    obtain ⟨e1, e2, e3⟩ := vl_3 (l := allv K) hV
    unfold V_X12_others
    rw [nI_clamp (by omega), nI_1, nI_clamp (by omega), show (2 : Int32) = nI 2 from rfl, nI_add, nI_clamp (by omega), e1, e2, e3]
    refine ⟨vp_in_nI (by omega) (by decide), eqI ⟨fun _ => ⟨fun _ => ⟨fun _ => r_sort hva.ok ⟨fun c5 => ?_, fun c5 => eqI (k4 (fun h => c5 (by rw [h.1]; rfl)))⟩, fun c => absurd c (by decide)⟩, fun c => absurd c (by decide)⟩, fun c => absurd c (by decide)⟩⟩
    have h5 := (nI_eq (b := 5) (by omega) (by decide)).mp c5
    obtain ⟨s, l, rfl, hs, ho⟩ := vec_of hva h5
    have hl := (vec_len hW ho).1
    refine r_load hva.ok ?_
    rw [show (nI (vld (vvec s))).toNatClampNeg = s from nI_clamp (n := s) (by omega), vec_wd hM.2.2.2.2.1 hs ho]
    refine ⟨vp_in_nI (n := s) hs (by decide), eqI ⟨fun _ => ⟨vp_in_nI (by omega) (by decide), r_sort hvc.ok ⟨fun c2 => ⟨vp_in_nI (by omega) (by decide), ?_⟩, fun c2 => eqI (k4 (fun h => c2 (by rw [h.2])))⟩⟩, fun c => absurd c (by decide)⟩⟩
    obtain ⟨m, rfl⟩ := num_of ((nI_eq (b := 2) (by omega) (by decide)).mp c2)
    have hm : i16 m := hvc
    have b1 := hm.1
    have b2 := hm.2
    refine r_amount b1 b2 ⟨fun c => eqI (k6 s l m rfl hs ho rfl hm (fun h9 => ?_)), fun c => ⟨fun c2 => ⟨fun c => absurd rfl c, fun _ => r_load hva.ok ?_⟩, fun c2 => eqI (k6 s l m rfl hs ho rfl hm (fun h9 => c2 ?_))⟩⟩
    · rw [show (0 : Int32) = iI 0 from rfl, iI_lt (by omega) (by omega) (by decide) (by decide)] at c
      omega
    · rw [← iI_nat, iI_lt (by omega) (by omega) (by omega) (by omega)] at c2
      have hge : ¬ m < 0 := fun h9 => c (by rw [show (0 : Int32) = iI 0 from rfl, iI_lt (by omega) (by omega) (by decide) (by decide)]; exact h9)
      obtain ⟨j, rfl⟩ : ∃ j : Nat, m = (j : Int) := ⟨m.toNat, by omega⟩
      rw [show nI (vld (vvec s)) = nI s from rfl, show (8 : Int32) = nI 8 from rfl, nI_mul, iI_nat, nI_add, nI_clamp (by omega)]
      refine ⟨vp_in_nI (by omega) (by decide), vp_in_nI (by omega) (by decide), eqI (r_load hva.ok ?_)⟩
      rw [show nI (vld (vvec s)) = nI s from rfl, nI_mul, nI_add, nI_clamp (by omega), show (up g 10 (8 * s + j) (enc v)) 10 (8 * s + j) = enc v from updE _ _ _]
      exact ⟨vp_in_nI (by omega) (by decide), k1 s l j rfl hs ho rfl (by omega)⟩
    · rw [← iI_nat, iI_lt (by omega) (by omega) (by omega) (by omega)]
      exact h9.2
  have cls : ∀ (φ : Nat → Nat) (b lo hi : Nat) (G : SG) (n p2 : Nat) (R : Int32 → SG → Prop), CG x G0 φ b lo hi sv rc hp out inp cn ([v, c, a].map gv ++ (cvl K).map gv) (ccl K) (cat K) p2 G → V_X7_indexed N (cw φ a) (cw φ c) G (fun r_36 g_37 => V_X8_peek 1550 (0 : Int32) (g_37 9) (fun r_38 u_40 => ∀ g_39 : SG, g_39 = uo g_37 9 u_40 → V_X2_put N r_36 r_38 (g_39 2) (fun u_43 => ∀ g_42 : SG, g_42 = uo g_39 2 u_43 → V_X8_peek 1550 (0 : Int32) (g_42 9) (fun r_44 u_46 => ∀ g_45 : SG, g_45 = uo g_42 9 u_46 → R r_44 g_45)))) → V_X7_answerOf N n 28 3 G R := fun φ b lo hi G n p2 R hG k1 => by
    refine c_ansM (L0 := [gv v]) (m := 3) hG.2.1 ll rfl ?_
    unfold AnsB
    exact ⟨by decide, vp_in_nI (n := 28) (by decide) (by decide), eqI ⟨fun c => absurd c (by decide), fun c => absurd c (by decide), fun c => absurd c (by decide), fun c => absurd c (by decide), fun c => absurd c (by decide), fun c => absurd c (by decide), fun c => absurd c (by decide), fun c => absurd c (by decide), fun c => absurd c (by decide), fun c => absurd c (by decide), fun _ => k1, fun c => absurd c (by decide), fun c => absurd c (by decide), fun c => absurd c (by decide), fun c10 c11 c12 c13 c14 c15 c16 c17 c18 c19 c20 c21 c22 c23 => absurd rfl c20⟩⟩
  have llm : (([v, c, a].map gv ++ (cvl K).map gv).map (gw (fun _ => 0))).length ≤ 1550 := by
    rw [List.length_map]; exact ll
  have bad : ∀ (φ : Nat → Nat) (er : Nat) (G : SG) (R : Int32 → SG → Prop), StkR (G 9) (([v, c, a].map gv ++ (cvl K).map gv).map (gw φ)) → (∀ r, R r (uo G 4 (us (G 4) 2 (nI er)))) → V_X8_peek 1550 (0 : Int32) ((uo G 4 (us (G 4) 2 (nI er))) 9) (fun r_38 u_40 => ∀ g_39 : SG, g_39 = uo (uo G 4 (us (G 4) 2 (nI er))) 9 u_40 → V_X2_put N (-1) r_38 (g_39 2) (fun u_43 => ∀ g_42 : SG, g_42 = uo g_39 2 u_43 → V_X8_peek 1550 (0 : Int32) (g_42 9) (fun r_44 u_46 => ∀ g_45 : SG, g_45 = uo g_42 9 u_46 → R r_44 g_45))) := fun φ er G R h9 kk => by
    refine v_peek (b := 0) (g := G 9) h9 (by simp) (by rw [List.length_map]; exact ll) (by decide) (eqI ?_)
    rw [show uo (uo G 4 (us (G 4) 2 (nI er))) 9 (G 9) = uo G 4 (us (G 4) 2 (nI er)) from uo_id rfl]
    unfold V_X2_put
    refine ⟨fun _ => eqI ?_, fun c => absurd (by decide) c⟩
    rw [show uo (uo G 4 (us (G 4) 2 (nI er))) 2 ((uo G 4 (us (G 4) 2 (nI er))) 2) = uo G 4 (us (G 4) 2 (nI er)) from uo_id rfl]
    refine v_peek (b := 0) (g := G 9) h9 (by simp) (by rw [List.length_map]; exact ll) (by decide) (eqI ?_)
    rw [show uo (uo G 4 (us (G 4) 2 (nI er))) 9 (G 9) = uo G 4 (us (G 4) 2 (nI er)) from uo_id rfl]
    exact kk _
  by_cases hk : vkd a = 5 ∧ vkd c = 2
  case neg =>
    refine s_opE (er := 4) hX hF (by decide) (by decide) (fun φ b lo hi G n p2 R hG hn kk => cls φ b lo hi G n p2 R hG ?_) (fun g k n R hM hV h13 hn kk => pre g k n R hM hV (fun _ => kk _) (fun s l m ea _ _ ev => absurd ⟨by rw [ea]; rfl, by rw [ev]; rfl⟩ hk) (fun s l j ea _ _ ev => absurd ⟨by rw [ea]; rfl, by rw [ev]; rfl⟩ hk))
    exact c_ixdX (CWd.rng hX hu hG.1) hva hvc hk (bad φ 4 G R hG.2.1 kk)
  obtain ⟨s, l, rfl, hs, ho⟩ := vec_of hva hk.1
  obtain ⟨m, rfl⟩ := num_of hk.2
  have hm : i16 m := hvc
  have hl := (vec_len hW ho)
  by_cases hin : 0 ≤ m ∧ m < (l.length : Int)
  · obtain ⟨j, rfl⟩ : ∃ j : Nat, m = (j : Int) := ⟨m.toNat, by omega⟩
    have hj : j < l.length := by omega
    have hkd : skd (ovec l) (ovec (l.set j v)) := trivial
    have hW1 : PW x sv rc (hset hp s (ovec (l.set j v))) out inp := by
      refine PW_set hW ho hkd (by show (l.set j v).length + 1 = l.length + 1; rw [List.length_set]) ⟨by rw [List.length_set]; exact hl.1, fun w hw => ?_⟩
      rcases List.mem_or_eq_of_mem_set hw with hw | hw
      · exact VV_set ho hkd (hl.2 w hw)
      · rw [hw]; exact VV_set ho hkd hvv
    refine s_opW (w := v) (hp1 := hset hp s (ovec (l.set j v))) hX hF hW1 (Cn_set ho hkd hF.2.2.2.2.2.2.2.2.2.2.2.2.2.2.2.1) (VV_set ho hkd hvv) (fun φ b lo hi G n p2 R hG hw hn kk => cls φ b lo hi G n p2 R hG ?_) (fun g k n R hM hK2 hn kk => pre g k n R hM hK2.2.2.2.2.1 (fun c => absurd hk c) (fun s2 l2 m2 ea _ ho2 ev _ hno => ?_) (fun s2 l2 j2 ea _ ho2 ev hj2 => ?_))
    · refine c_ixd hX hW hG ho hm (fun j2 ej hj2 => ?_) (fun c => absurd hin c)
      have ej : j2 = j := by omega
      subst ej
      obtain ⟨-, a2, a3, a4⟩ := hG.1.2.2.1.1 s _ ho
      have a3 : φ s + (l.length + 1) ≤ b + usum hp 168 := a3
      obtain ⟨n1, n2, n3⟩ := CG_N hX hG
      refine v_peek (b := 0) hG.2.1 (by simp) (by rw [List.length_map]; exact ll) (by decide) (eqI ?_)
      rw [show uo G 9 (G 9) = G from uo_id rfl]
      show V_X2_put N _ (cw φ v) _ _
      refine v_put (by omega) (by omega) (eqI ?_)
      have hobj : CG x G0 φ b lo hi sv rc (hset hp s (ovec (l.set j2 v))) out inp cn ([v, vnum (j2 : Int), vvec s].map gv ++ (cvl K).map gv) (ccl K) (cat K) p2 (uo G 2 (up (G 2) 1 (φ s + 1 + j2) (cw φ v))) := by
        rw [show φ s + 1 + j2 = φ s + (1 + j2) by omega]
        refine CGobj hX hs hG ho (by show 1 + j2 < l.length + 1; omega) (by show (l.set j2 v).length + 1 = l.length + 1; rw [List.length_set]) ?_
        show wd 2 ((l.set j2 v).length : Int) :: (l.set j2 v).map (cw φ) = (wd 2 (l.length : Int) :: l.map (cw φ)).set (1 + j2) (cw φ v)
        rw [List.length_set, show 1 + j2 = j2 + 1 by omega, List.set_cons_succ, List.map_set]
      refine v_peek (b := 0) hobj.2.1 (by simp) (by rw [List.length_map]; exact ll) (by decide) (eqI ?_)
      rw [show uo (uo G 2 (up (G 2) 1 (φ s + 1 + j2) (cw φ v))) 9 ((uo G 2 (up (G 2) 1 (φ s + 1 + j2) (cw φ v))) 9) = uo G 2 (up (G 2) 1 (φ s + 1 + j2) (cw φ v)) from uo_id rfl]
      exact kk _ _ _ hobj hw
    · cases ea
      rw [ho] at ho2; cases ho2
      cases ev
      exact absurd hin hno
    · cases ea
      rw [ho] at ho2; cases ho2
      have : (j : Int) = (j2 : Int) := by cases ev; rfl
      have : j = j2 := by omega
      subst this
      refine kk _ (MW_obj hW hM ho hs (by show j < (l.map enc).length; rw [List.length_map]; exact hj) rfl (by show (l.set j v).length + 1 = l.length + 1; rw [List.length_set]) ?_) (MK_up hK2 (by decide) (by decide))
      show (l.set j v).map enc = (l.map enc).set j (enc v)
      rw [List.map_set]
  · refine s_opE (er := 6) hX hF (by decide) (by decide) (fun φ b lo hi G n p2 R hG hn kk => cls φ b lo hi G n p2 R hG ?_) (fun g k n R hM hV h13 hn kk => pre g k n R hM hV (fun c => absurd hk c) (fun s2 l2 m2 ea _ ho2 ev _ hno => kk _) (fun s2 l2 j2 ea _ ho2 ev hj2 => ?_))
    · exact c_ixd hX hW hG ho hm (fun j2 ej hj2 => absurd ⟨by omega, by omega⟩ hin) (fun _ => bad φ 6 G R hG.2.1 kk)
    · cases ea
      rw [ho] at ho2; cases ho2
      have : m = (j2 : Int) := by cases ev; rfl
      exact absurd ⟨by omega, by omega⟩ hin
end WD
