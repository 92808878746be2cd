-- ===== operators that make something =====
section MA
variable {x : Cx} {G0 : SG} {N : Nat} {cv cf : Int32} {sv : Nat → Option Va} {rc : Nat → Va × Va} {hp : Nat → Option Ob} {out : List Nat} {inp : List Int} {cn : Nat → Int32}
theorem c_settleN {r m0 : Int32} {m : Nat} {G : SG} {R : SG → Prop} (h2 : G 4 0 2 = 0) (h3 : G 4 0 3 = nI m) (hm : 0 < m) (hm2 : m ≤ 1000) (k : R G) : V_X7_settle N r m0 G R := by
  unfold V_X7_settle
  refine ⟨fun c => absurd h2 c, fun _ => ⟨fun _ => k, fun c => ?_⟩⟩
  rw [h3] at c
  exact absurd ((nI_eq (b := 0) (by omega) (by decide)).mp c) (by omega)
theorem s_opM {K : List Fr} {op i st e q p D p1 m : Nat} {sc : List (List Nat)} {vs : List Va} {v : Va} {RefM : Nat → St → StL → (Int32 → St → StL → Prop) → Prop} (hX : XC x G0 N) (hF : OpF x sv rc hp out inp cn K op i st e q p D p1 sc (v :: vs)) (hm0 : 0 < m) (hm : m ≤ 1000)
    (res : usum (rmH x ((op, i, [], st, e, q, v :: vs) :: K) sv rc hp m) 168 + m ≤ x.z → ∃ hp2 w, PW x sv rc hp2 out inp ∧ Cn x hp2 K q (D + 1) sc ∧ VV x.K x.C hp2 w ∧
      (∀ (φ : Nat → Nat) (b lo hi : Nat) (cn1 : Nat → Int32) (G : SG) (n p2 : Nat) (R : Int32 → SG → Prop), CG x G0 φ b lo hi sv rc (rmH x ((op, i, [], st, e, q, v :: vs) :: K) sv rc hp m) out inp cn1 ((v :: vs).map gv ++ (cvl K).map gv) (ccl K) (cat K) p2 G → G 4 0 3 = 0 → 10000 ≤ n → (∀ φ1 G1, CG x G0 φ1 b lo hi sv rc hp2 out inp cn1 ((v :: vs).map gv ++ (cvl K).map gv) (ccl K) (cat K) p2 G1 → G1 4 0 3 = 0 → R (gw φ1 (gv w)) G1) → V_X7_answerOf N n op (nI (v :: vs).length) G R) ∧
      (∀ (g : St) (k : StL) (cn1 : Nat → Int32) (n : Nat) (R : Int32 → St → StL → Prop), MW x cv cf sv rc (rmH x ((op, i, [], st, e, q, v :: vs) :: K) sv rc hp m) out inp cn1 g k → MK ((op, i, [], st, e, q, v :: vs) :: K) g → 20000 ≤ n → (∀ g1, MW x cv cf sv rc hp2 out inp cn1 g1 k → MK ((op, i, [], st, e, q, v :: vs) :: K) g1 → R (enc w) g1 k) → RefM n g k R))
    (hN : ∀ (φ : Nat → Nat) (b lo hi : Nat) (G : SG) (n p2 : Nat) (R : Int32 → SG → Prop), CG x G0 φ b lo hi sv rc hp out inp cn ((v :: vs).map gv ++ (cvl K).map gv) (ccl K) (cat K) p2 G → G 4 0 3 = 0 → ¬ usum hp 168 + m ≤ x.z → (∀ r G1, CG x G0 φ b lo hi sv rc hp out inp cn ((v :: vs).map gv ++ (cvl K).map gv) (ccl K) (cat K) p2 G1 → G1 4 0 3 = nI m → R r G1) → V_X7_answerOf N n op (nI (v :: vs).length) G R)
    (hR0 : ∀ (g : St) (k : StL) (n : Nat) (R : Int32 → St → StL → Prop), MW x cv cf sv rc hp out inp cn g k → MK ((op, i, [], st, e, q, v :: vs) :: K) g → V_X12_room n (nI m) g k (fun r g1 k1 => (¬ r = 0 → RefM n g1 k1 R) ∧ (r = 0 → R 1048576 g1 k1)) → RefO n op (allv K).length g k R) : Stq x G0 N cv cf ((1, p, v), (op, i, [], st, e, q, vs) :: K, sv, rc, hp, out, inp, cn) := by
  obtain ⟨hW, hCt, hCt1, hVV, h9, h32, f1, f2, f3, h7, c1, c2, c3, eq, hq, hK, l1, l2, l3, l4, l5, hGd⟩ := id hF
  have htp := hX.1.2.2.2.2.2.2
  have f3 : vs.length + 1 ≤ 4 := f3
  have n33 : op ≠ 33 := by omega
  have n7 : op ≠ 7 := by omega
  obtain ⟨v1, v2, v3⟩ := cvl_full (K := K) (i := i) (st := st) (e := e) (q := q) (vv := v :: vs) n7 n33
  have cls : ∀ (φ : Nat → Nat) (b lo hi : Nat) (G : SG) (post : Int32 → SG → Prop) (n i2 : Nat), CG x G0 φ b lo hi sv rc hp out inp cn ((v :: vs).map gv ++ (cvl K).map gv) (ccl K) (cat K) p1 G → 15000 ≤ n → i2 + 10 ≤ 1000000 → (usum (rmH x ((op, i, [], st, e, q, v :: vs) :: K) sv rc hp m) 168 + m ≤ x.z → ∀ φ1 b1 G1 n1 i1, CG x G0 φ1 b1 lo hi sv rc (rmH x ((op, i, [], st, e, q, v :: vs) :: K) sv rc hp m) out inp (rmC x ((op, i, [], st, e, q, v :: vs) :: K) sv rc hp cn m) ((v :: vs).map gv ++ (cvl K).map gv) (ccl K) (cat K) p1 G1 → n ≤ n1 + 2 → i1 ≤ i2 + 2 → V_X7_run_32 N post n1 (nI i1) G1) → (¬ usum (rmH x ((op, i, [], st, e, q, v :: vs) :: K) sv rc hp m) 168 + m ≤ x.z → ∀ φ1 b1 G1 n1 i1, CE x G0 φ1 b1 lo hi sv rc (rmH x ((op, i, [], st, e, q, v :: vs) :: K) sv rc hp m) out inp (rmC x ((op, i, [], st, e, q, v :: vs) :: K) sv rc hp cn m) 2 G1 → n ≤ n1 + 2 → i1 ≤ i2 + 2 → V_X7_run_32 N post n1 (nI i1) G1) → V_X7_run_32 N post n (nI i2) G := by
    intro φ b lo hi G post n i2 hG hn hi2 k1 k0
    obtain ⟨n, rfl⟩ : ∃ n', n = n' + 1 := ⟨n - 1, by omega⟩
    have hG' := hG
    rw [← v1, ← v2, ← v3] at hG'
    refine i_mk (n := n) hX hW hGd (by omega) (by omega) hm0 hm hG' (fun hr φ1 b1 G2 n1 i1 h2 d1 d2 => ?_) (fun hr φ1 b1 G2 h2 => k0 hr φ1 b1 G2 n (i2 + 1) h2 (by omega) (by omega)) (fun hr G2 R h2 w2 kR => ?_)
    · rw [v1, v2, v3] at h2
      exact k1 hr φ1 b1 G2 n1 i1 h2 (by omega) (by omega)
    · rw [v1, v2, v3] at h2
      refine i_appN hX h2 w2 (by omega) h32 c1 c2 c3 (fun G3 h3 w3 => hN φ b lo hi G3 n _ _ h3 w3 hr (fun r G4 h4 w4 => c_settleN h4.2.2.2.2.2.2 w4 hm0 hm (kR (p1 + 3) G4 ?_ w4)))
      rw [v1, v2, v3]; exact h4
  have hW1 := PW_rm (m := m) hX.1 hW hGd
  by_cases hr : usum (rmH x ((op, i, [], st, e, q, v :: vs) :: K) sv rc hp m) 168 + m ≤ x.z
  · obtain ⟨hp2, w, hW2, hK2, hw, hC, hR⟩ := res hr
    refine s_op (A1 := ((1, q, w), K, sv, rc, hp2, out, inp, rmC x ((op, i, [], st, e, q, v :: vs) :: K) sv rc hp cn m)) hX hF ⟨hW2, CtK_rm hCt1, hw, sc, Cn_mono K q _ 1 sc (by omega) hK2⟩ ?_ ?_ ?_
    · show 3 * (1001 - (rmC x ((op, i, [], st, e, q, v :: vs) :: K) sv rc hp cn m 2).toNatClampNeg) + K.length + 2 < 3 * (1001 - (cn 2).toNatClampNeg) + (K.length + 1) + 2
      rw [rmC_at (by decide) (by decide)]; omega
    · intro φ b lo hi G post n i2 hG hn hi2 kk
      refine cls φ b lo hi G post n i2 hG hn hi2 (fun _ φ1 b1 G1 n1 i1 g1 d1 d2 => ?_) (fun c => absurd hr c)
      obtain ⟨n1, rfl⟩ : ∃ n', n1 = n' + 1 := ⟨n1 - 1, by omega⟩
      refine i_app (n := n1) hX g1 (by omega) (by omega) h32 c1 c2 c3 (fun G2 g2 w2 => hC φ1 b1 lo hi _ G2 n1 _ _ g2 w2 (by omega) (fun φ2 G3 g3 w3 => ?_))
      refine c_settle (y := gv w) g3 w3 (by rw [List.length_map]) ?_ (by rw [List.length_map]; omega) (fun G4 g4 w4 => af0 w4 (kk G4 n1 (i1 + 1) ⟨φ2, b1, lo, hi, by rw [eq]; exact g4⟩ (by omega) (by omega)))
      rw [List.length_append, List.length_map, List.length_map]
      show vs.length + 1 + (cvl K).length ≤ 1550
      omega
    · intro g k post n hM hKM h17 hn kk
      refine hR0 g k n _ hM hKM (r_room hX.1 hW hGd (by show ((v :: vs) ++ allv K).length ≤ 1100; omega) (by omega) hm hM hKM (fun _ g1 m1 m2 m3 => ⟨fun _ => hR g1 k _ n _ m1 m2 hn (fun g2 s1 s2 => ⟨fun c => absurd s2.2.2.2.2.2 c, fun _ => ?_⟩), fun c => absurd c (by decide)⟩) (fun c => absurd hr c))
      exact r_pop s1 s2 (by omega) (by omega) (fun g3 t1 t2 t3 t4 t5 => kk g3 k ⟨t1, t2, t3, t4⟩)
  · refine s_op (A1 := ((4, 0, none), [], sv, rc, rmH x ((op, i, [], st, e, q, v :: vs) :: K) sv rc hp m, out, inp, rmC x ((op, i, [], st, e, q, v :: vs) :: K) sv rc hp cn m)) hX hF ⟨hW1, by decide, by decide⟩ ?_ ?_ ?_
    · show 0 < _ + (K.length + 1) + 2
      omega
    · intro φ b lo hi G post n i2 hG hn hi2 kk
      exact cls φ b lo hi G post n i2 hG hn hi2 (fun c => absurd c hr) (fun _ φ1 b1 G1 n1 i1 g1 d1 d2 => kk G1 n1 i1 ⟨φ1, b1, lo, hi, g1⟩ (by omega) (by omega))
    · intro g k post n hM hKM h17 hn kk
      refine hR0 g k n _ hM hKM (r_room hX.1 hW hGd (by show ((v :: vs) ++ allv K).length ≤ 1100; omega) (by omega) hm hM hKM (fun c => absurd c hr) (fun _ g1 m1 m2 => ⟨fun c => absurd rfl c, fun _ => ⟨fun _ => kk g1 k ⟨m1, m2⟩, fun c => by rw [m2] at c; exact absurd c (by decide)⟩⟩))
theorem Gd_add {s : Nat} {o : Ob} {Kf : List Fr} (hn : hp s = none) (h : Gd x hp Kf) : Gd x (hset hp s o) Kf := by
  obtain ⟨a1, a2, a3⟩ := h
  refine ⟨fun v hv => VV_add hn (a1 v hv), fun e he => ?_, a3⟩
  have := a2 e he
  cases e with
  | zero => trivial
  | succ e =>
    obtain ⟨h1, p, q, l, h2⟩ := this
    exact ⟨h1, p, q, l, by rw [hset_ne _ _ (fun e => by rw [e, hn] at h2; cases h2)]; exact h2⟩
theorem Gd_rm {Kf : List Fr} {m : Nat} (h : Gd x hp Kf) : Gd x (rmH x Kf sv rc hp m) Kf := by
  obtain ⟨a1, a2, a3⟩ := h
  refine ⟨fun v hv => VV_rm (a1 v hv) hv, fun e he => ?_, a3⟩
  have := a2 e he
  cases e with
  | zero => trivial
  | succ e =>
    obtain ⟨h1, p, q, l, h2⟩ := this
    exact ⟨h1, p, q, l, hp_rm h2 (Or.inr ⟨e + 1, he, rfl⟩)⟩
/-- cells are made, one after the other, each with the one before behind it -/
def MkL : List Va → (Nat → Option Ob) → Va → (Nat → Option Ob) → Va → Prop
  | [], hp, l, hp1, l1 => hp1 = hp ∧ l1 = l
  | w :: ws, hp, l, hp1, l1 => ∃ s, s < 168 ∧ hp s = none ∧ (∀ t, t < s → hp t ≠ none) ∧ MkL ws (hset hp s (ocel w l)) (vcel s) hp1 l1
theorem MkL_ok (hx : XOK x) : ∀ (ws : List Va) (hp : Nat → Option Ob) (l : Va), PW x sv rc hp out inp → usum hp 168 + 2 * ws.length ≤ x.z → (∀ w ∈ ws, VV x.K x.C hp w) → VV x.K x.C hp l → ∃ hp1 l1, MkL ws hp l hp1 l1 ∧ PW x sv rc hp1 out inp ∧ VV x.K x.C hp1 l1 ∧ ∀ K p d sc, Cn x hp K p d sc → Cn x hp1 K p d sc := by
  intro ws
  induction ws with
  | nil =>
    intro hp l hW _ _ hl
    exact ⟨hp, l, ⟨rfl, rfl⟩, hW, hl, fun _ _ _ _ h => h⟩
  | cons w ws ih =>
    intro hp l hW hz hv hl
    have hz : usum hp 168 + 2 * (ws.length + 1) ≤ x.z := hz
    obtain ⟨s, s1, s2, s3⟩ := PW_free hx hW
    have hO : ObR x.r0 x.nam x.K x.C x.c x.tp x.ent (hset hp s (ocel w l)) (ocel w l) := ⟨VV_add s2 (hv w (by simp)), VV_add s2 hl⟩
    have hW1 := PW_add hW s1 s2 (o := ocel w l) (by show usum hp 168 + 2 ≤ x.z; omega) hO
    obtain ⟨hp1, l1, a1, a2, a3, a4⟩ := ih (hset hp s (ocel w l)) (vcel s) hW1 (by rw [usum_add s1 s2]; show usum hp 168 + 2 + 2 * ws.length ≤ x.z; omega) (fun u hu => VV_add s2 (hv u (by simp [hu]))) ⟨s1, w, l, hset_at _ _ _⟩
    exact ⟨hp1, l1, ⟨s, s1, s2, s3, a1⟩, a2, a3, fun K p d sc h => a4 K p d sc (Cn_add s2 h)⟩
/-- the reference makes them -/
theorem r_mkL {Kf : List Fr} {l0 : List Va} {post : Int32 → St → StL → Prop} : ∀ (ws : List Va) (hp : Nat → Option Ob) (l : Va) (hp1 : Nat → Option Ob) (l1 : Va) (g : St) (k : StL) (cn : Nat → Int32) (n : Nat), MkL ws hp l hp1 l1 → PW x sv rc hp out inp → usum hp 168 + 2 * ws.length ≤ x.z → (∀ w ∈ ws, VV x.K x.C hp w) → VV x.K x.C hp l → MW x cv cf sv rc hp out inp cn g k → MK Kf g → VlM g (ws ++ l0) → (ws ++ l0).length < 1100 → 300 + ws.length ≤ n → (∀ g1, MW x cv cf sv rc hp1 out inp cn g1 k → MK Kf g1 → post (enc l1) g1 k) → V_X12_lists_106 post n (nI l0.length) (enc l) (iI ((ws.length : Int) - 1)) g k := by
  intro ws
  induction ws with
  | nil =>
    intro hp l hp1 l1 g k cn n hm _ _ _ _ hM hK _ _ hn kk
    obtain ⟨n, rfl⟩ : ∃ n', n = n' + 1 := ⟨n - 1, by omega⟩
    obtain ⟨rfl, rfl⟩ := hm
    unfold V_X12_lists_106
    exact ⟨fun _ => kk g hM hK, fun c => absurd (by decide) c⟩
  | cons w ws ih =>
    intro hp l hp1 l1 g k cn n hm hW hz hv hl hM hK hV hlen hn kk
    obtain ⟨n, rfl⟩ : ∃ n', n = n' + 1 := ⟨n - 1, by omega⟩
    obtain ⟨s, s1, s2, s3, hm⟩ := hm
    have hz : usum hp 168 + 2 * (ws.length + 1) ≤ x.z := hz
    have hn : 300 + (ws.length + 1) ≤ n + 1 := hn
    have hlen : (ws ++ l0).length + 1 < 1100 := hlen
    have hlw : (ws ++ l0).length = ws.length + l0.length := List.length_append
    have ei : iI (((w :: ws).length : Int) - 1) = nI ws.length := by
      rw [← iI_nat]; congr 1
      show ((ws.length + 1 : Nat) : Int) - 1 = _
      omega
    have hO : ObR x.r0 x.nam x.K x.C x.c x.tp x.ent (hset hp s (ocel w l)) (ocel w l) := ⟨VV_add s2 (hv w (by simp)), VV_add s2 hl⟩
    have hW1 := PW_add hW s1 s2 (o := ocel w l) (by show usum hp 168 + 2 ≤ x.z; omega) hO
    unfold V_X12_lists_106
    rw [ei]
    refine ⟨fun c => absurd c (nI_pos (by omega)), fun _ => r_make (w := 1) (len := 2) hM s1 s2 s3 (by omega) ?_⟩
    rw [nI_add, nI_clamp (by omega), show (8 : Int32) = nI 8 from rfl, nI_mul, nI_clamp (by omega), nI_1, nI_clamp (by omega)]
    have e21 : (us (up (up g 8 s (nI 1)) 9 s (nI 2)) 4 (nI (usum hp 168 + 2))) 21 (l0.length + ws.length) = enc w := by
      show g 21 (l0.length + ws.length) = enc w
      have := VlM_top (v := w) (l := ws ++ l0) hV
      rw [hlw] at this
      rw [Nat.add_comm]; exact this
    rw [e21]
    refine ⟨vp_in_nI (by omega) (by decide), vp_in_nI (by omega) (by decide), eqI ⟨vp_in_nI (by omega) (by decide), eqI ?_⟩⟩
    rw [show (2000 : Int32) = nI 2000 from rfl, nI_add]
    refine r_code (v := vcel s) (c := 4) (p := 2000 + s) s1 rfl rfl ?_
    have h0 : ∀ j, j ≠ 4 → (up (up (us (up (up g 8 s (nI 1)) 9 s (nI 2)) 4 (nI (usum hp 168 + 2))) 10 (8 * s) (enc w)) 10 (8 * s + 1) (enc l)) 0 j = g 0 j := fun j hj => us4 _ _ hj
    have hrw : ∀ c, c ≠ 0 → c ≠ 8 → c ≠ 9 → c ≠ 10 → (up (up (us (up (up g 8 s (nI 1)) 9 s (nI 2)) 4 (nI (usum hp 168 + 2))) 10 (8 * s) (enc w)) 10 (8 * s + 1) (enc l)) c = g c := fun c d0 d8 d9 d10 => by rw [upB _ _ _ d10, upB _ _ _ d10, usZ d0, upB _ _ _ d9, upB _ _ _ d8]
    have hM1 : MW x cv cf sv rc (hset hp s (ocel w l)) out inp cn (up (up (us (up (up g 8 s (nI 1)) 9 s (nI 2)) 4 (nI (usum hp 168 + 2))) 10 (8 * s) (enc w)) 10 (8 * s + 1) (enc l)) k := by
      refine MWnew (o := ocel w l) hW hM s1 s2 rfl rfl (fun j hj => ?_) (fun z hz => ?_) rfl h0 hrw
      · have hj : j < 2 := hj
        show upd (upd (g 10) (8 * s) _) (8 * s + 1) _ (8 * s + j) = ([enc w, enc l] : List Int32).getD j 0
        have hcs : j = 0 ∨ j = 1 := by omega
        rcases hcs with rfl | rfl
        · rw [updN _ _ (by omega)]; exact updE _ _ _
        · rw [updE]; rfl
      · show upd (upd (g 10) (8 * s) _) (8 * s + 1) _ z = _
        rw [updN _ _ (by omega), updN _ _ (by omega)]
    have ej : nI ws.length + (-1 : Int32) = iI ((ws.length : Int) - 1) := by
      rw [show (-1 : Int32) = iI (-1) from rfl, ← iI_nat, iI_add]; rfl
    rw [ej]
    refine eqI (ih (hset hp s (ocel w l)) (vcel s) hp1 l1 _ k cn n hm hW1 (by rw [usum_add s1 s2]; show usum hp 168 + 2 + 2 * ws.length ≤ x.z; omega) (fun u hu => VV_add s2 (hv u (by simp [hu]))) ⟨s1, w, l, hset_at _ _ _⟩ hM1 (MK_new hK h0 hrw) (VlM_fr (fun t ht => by rw [hrw 21 (by decide) (by decide) (by decide) (by decide)]) (VlM_tl (vs := [w]) hV)) (by omega) (by omega) kk)
end MA
section MB
variable {x : Cx} {G0 G : SG} {N : Nat} {φ : Nat → Nat} {b lo hi : Nat} {sv : Nat → Option Va} {rc : Nat → Va × Va} {hp : Nat → Option Ob} {out : List Nat} {inp : List Int} {cn : Nat → Int32} {LV LC LK : List Gw} {p n i : Nat} {post : Int32 → SG → Prop}
/-- the class makes a cell -/
theorem c_mk1 {Kf : List Fr} {s : Nat} {w l : Va} {L1 : List Gw} {R : St → SG → Prop} (hX : XC x G0 N) (hW : PW x sv rc hp out inp) (hGd : Gd x hp Kf) (h : CG x G0 φ b lo hi sv rc hp out inp cn ((cvl Kf).map gv) (ccl Kf) (cat Kf) p G) (hs : s < 168) (hn : hp s = none) (hw : VV x.K x.C hp w) (hl : VV x.K x.C hp l) : CG x G0 (phS φ s (b + usum hp 168)) b lo hi sv rc (hset hp s (ocel w l)) out inp cn ((cvl Kf).map gv) (ccl Kf) (cat Kf) p (uo G 2 (up (up (us (G 2) 8 (nI (usum hp 168 + 2))) 1 (b + usum hp 168) (cw φ w)) 1 (b + usum hp 168 + 1) (cw φ l))) := by
  refine CGnew (s := s) (o := ocel w l) hX hW h hs hn (rows_ne hGd hn) rfl (fun j hj => us4 _ _ hj) (fun a ha => ?_) (fun j hj => ?_)
  · show upd (upd (G 2 1) (b + usum hp 168) _) (b + usum hp 168 + 1) _ a = _
    rw [updN _ _ (by omega), updN _ _ (by omega)]
  · have hj : j < 2 := hj
    show upd (upd (G 2 1) (b + usum hp 168) _) (b + usum hp 168 + 1) _ (b + usum hp 168 + j) = ([cw (phS φ s (b + usum hp 168)) w, cw (phS φ s (b + usum hp 168)) l] : List Int32).getD j 0
    rw [cw_phS hw hn, cw_phS hl hn]
    have hcs : j = 0 ∨ j = 1 := by omega
    rcases hcs with rfl | rfl
    · rw [updN _ _ (by omega)]; exact updE _ _ _
    · rw [updE]; rfl
theorem cw_new (s a : Nat) : cw (phS φ s a) (vcel s) = wd 4 ((a : Nat) : Int) := by
  show wd 4 ((phS φ s a s : Nat) : Int) = _
  rw [phS, if_pos rfl]
theorem c_mkL {Kf : List Fr} {vv : List Va} {L1 : List Gw} {R : Int32 → SG → Prop} (hX : XC x G0 N) (eKf : (cvl Kf).map gv = vv.map gv ++ L1) (hL : (vv.map gv ++ L1).length ≤ 1550) : ∀ (ws : List Va) (j : Nat) (hp : Nat → Option Ob) (φ : Nat → Nat) (l : Va) (hp1 : Nat → Option Ob) (l1 : Va) (G : SG) (n : Nat), MkL ws hp l hp1 l1 → vv.drop j = ws → j ≤ vv.length → PW x sv rc hp out inp → Gd x hp Kf → usum hp 168 + 2 * ws.length ≤ x.z → (∀ w ∈ ws, VV x.K x.C hp w) → VV x.K x.C hp l → CG x G0 φ b lo hi sv rc hp out inp cn ((cvl Kf).map gv) (ccl Kf) (cat Kf) p G → G 4 0 3 = 0 → 10 + ws.length ≤ n → (∀ φ1 G1, CG x G0 φ1 b lo hi sv rc hp1 out inp cn ((cvl Kf).map gv) (ccl Kf) (cat Kf) p G1 → G1 4 0 3 = 0 → R (cw φ1 l1) G1) → V_X7_newList_16 N R n (nI vv.length) (cw φ l) (nI j) G := by
  intro ws
  induction ws with
  | nil =>
    intro j hp φ l hp1 l1 G n hm hd hj _ _ _ _ _ hG hw hn kk
    obtain ⟨n, rfl⟩ : ∃ n', n = n' + 1 := ⟨n - 1, by omega⟩
    obtain ⟨rfl, rfl⟩ := hm
    have hge : vv.length ≤ j := List.drop_eq_nil_iff.mp hd
    rw [List.length_append, List.length_map] at hL
    unfold V_X7_newList_16
    exact ⟨fun _ => kk φ G hG hw, fun c => absurd (nI_le hge (by omega)) c⟩
  | cons w ws ih =>
    intro j hp φ l hp1 l1 G n hm hd hj hW hGd hz hv hl hG hw hn kk
    obtain ⟨n, rfl⟩ : ∃ n', n = n' + 1 := ⟨n - 1, by omega⟩
    obtain ⟨s, s1, s2, s3, hm⟩ := hm
    have hz : usum hp 168 + 2 * (ws.length + 1) ≤ x.z := hz
    have hn : 10 + (ws.length + 1) ≤ n + 1 := hn
    have hjl : j < vv.length := by
      rcases Nat.lt_or_ge j vv.length with c | c
      · exact c
      · rw [List.drop_eq_nil_of_le c] at hd; cases hd
    have hLl : (vv.map gv ++ L1).length = vv.length + L1.length := by rw [List.length_append, List.length_map]
    have hvw := hv w (by simp)
    obtain ⟨n1, n2, n3⟩ := CG_N hX hG
    have hO : ObR x.r0 x.nam x.K x.C x.c x.tp x.ent (hset hp s (ocel w l)) (ocel w l) := ⟨VV_add s2 hvw, VV_add s2 hl⟩
    have hW1 := PW_add hW s1 s2 (o := ocel w l) (by show usum hp 168 + 2 ≤ x.z; omega) hO
    rw [List.drop_eq_getElem_cons hjl] at hd
    have ew : vv[j] = w := (List.cons.inj hd).1
    have ed : vv.drop (j + 1) = ws := (List.cons.inj hd).2
    have hpk : ((List.map (gw φ) ((cvl Kf).map gv))).getD j 0 = cw φ w := by
      rw [eKf, List.getD_eq_getElem?_getD, List.getElem?_map, List.getElem?_append_left (by rw [List.length_map]; exact hjl), List.getElem?_map, List.getElem?_eq_getElem hjl, ew]; rfl
    unfold V_X7_newList_16
    refine ⟨fun c => absurd ((nI_leI (by omega) (by omega)).mp c) (by omega), fun _ => c_make (m := 2) hG (eqI ?_)⟩
    refine v_peek (b := j) (g := G 9) hG.2.1 (by rw [List.length_map, eKf, hLl]; omega) (by rw [List.length_map, eKf]; exact hL) (by decide) (eqI ?_)
    rw [hpk, show uo (uo G 2 (us (G 2) 8 (nI (usum hp 168 + 2)))) 9 (G 9) = uo G 2 (us (G 2) 8 (nI (usum hp 168 + 2))) from uo_id rfl]
    refine v_put (by omega) (by omega) (eqI ?_)
    rw [nI_1]
    refine v_put (by omega) (by omega) (eqI ?_)
    rw [uo_uo, uo_uo, ← iI_nat (b + usum hp 168)]
    refine v_of (t := 4) (by decide) ?_
    rw [← cw_new (φ := φ) s (b + usum hp 168), nI_1]
    have hC := c_mk1 (L1 := L1) (R := fun _ _ => True) hX hW hGd hG s1 s2 hvw hl
    exact eqI (ih (j + 1) (hset hp s (ocel w l)) _ (vcel s) hp1 l1 _ n hm ed (by omega) hW1 (Gd_add s2 hGd) (by rw [usum_add s1 s2]; show usum hp 168 + 2 + 2 * ws.length ≤ x.z; omega) (fun u hu => VV_add s2 (hv u (by simp [hu]))) ⟨s1, w, l, hset_at _ _ _⟩ hC hw (by omega) kk)
end MB
