-- ===== the reference's frames =====
section RF
variable {x : Cx} {cv cf : Int32} {sv : Nat → Option Va} {rc : Nat → Va × Va} {hp : Nat → Option Ob} {out : List Nat} {inp : List Int} {cn : Nat → Int32} {g g1 : St} {k : StL} {post : St → StL → Prop}
theorem MW_fr (h : MW x cv cf sv rc hp out inp cn g k) (h1 : ∀ c, c ≠ 0 → (c < 15 ∨ 22 ≤ c) → g1 c = g c) (h2 : ∀ j, (j < 12 ∨ j = 19 ∨ 21 ≤ j) → g1 0 j = g 0 j) : MW x cv cf sv rc hp out inp cn g1 k := by
  obtain ⟨a1, a2, a3, a4, a5, a6, a7, a8, a9, a10, a11, a12, a13, a14, a15, a16, a17⟩ := h
  refine ⟨(h2 1 (by omega)).trans a1, fun i hi => ?_, ?_, ?_, fun s hs => ?_, (h2 4 (by omega)).trans a6, (h2 7 (by omega)).trans a7, (h2 8 (by omega)).trans a8, ⟨(h2 24 (by omega)).trans a9.1, fun i hi => ?_⟩, ⟨(h2 25 (by omega)).trans a10.1, fun i hi => ?_⟩, (h2 5 (by omega)).trans a11, (h2 6 (by omega)).trans a12, (h2 19 (by omega)).trans a13, (h2 21 (by omega)).trans a14, (h2 22 (by omega)).trans a15, (h2 23 (by omega)).trans a16, (h2 0 (by omega)).trans a17⟩
  · rw [h1 4 (by decide) (by omega), h1 5 (by decide) (by omega)]; exact a2 i hi
  · rw [h2 2 (by omega), h1 1 (by decide) (by omega), h1 2 (by decide) (by omega), h1 3 (by decide) (by omega)]; exact a3
  · refine ⟨(h2 3 (by omega)).trans a4.1, fun i hi => ?_⟩
    rw [h1 6 (by decide) (by omega), h1 7 (by decide) (by omega)]; exact a4.2 i hi
  · rw [h1 8 (by decide) (by omega), h1 9 (by decide) (by omega), h1 10 (by decide) (by omega)]; exact a5 s hs
  · rw [h1 23 (by decide) (by omega)]; exact a9.2 i hi
  · rw [h1 24 (by decide) (by omega)]; exact a10.2 i hi
theorem FrM_fr : ∀ (Kf : List Fr), (∀ c, 15 ≤ c → c ≤ 20 → ∀ t, t < Kf.length → g1 c t = g c t) → FrM g Kf → FrM g1 Kf
  | [], _, _ => trivial
  | (op, i, rest, st, e, q, vs) :: K, h, ⟨a1, a2, a3, a4, a5, a6, a7⟩ => by
    have h9 : ∀ c, 15 ≤ c → c ≤ 20 → g1 c K.length = g c K.length := fun c b d => h c b d K.length (by show K.length < K.length + 1; omega)
    exact ⟨(h9 15 (by decide) (by decide)).trans a1, fun z => (h9 16 (by decide) (by decide)).trans (a2 z), (h9 17 (by decide) (by decide)).trans a3, (h9 18 (by decide) (by decide)).trans a4, (h9 19 (by decide) (by decide)).trans a5, (h9 20 (by decide) (by decide)).trans a6, FrM_fr K (fun c b d t ht => h c b d t (by show t < K.length + 1; omega)) a7⟩
theorem VlM_fr {l : List Va} (h : ∀ t, t < l.length → g1 21 t = g 21 t) (hv : VlM g l) : VlM g1 l := fun i hi => (h i hi).trans (hv i hi)
theorem VlM_tl : ∀ {vs l : List Va}, VlM g (vs ++ l) → VlM g l
  | [], l, h => h
  | v :: vs, l, h => by
    refine VlM_tl (vs := vs) (fun i hi => ?_)
    have := h i (by show i < (vs ++ l).length + 1; omega)
    rw [this]
    show enc ((v :: (vs ++ l)).getD ((vs ++ l).length + 1 - 1 - i) none) = _
    rw [show (vs ++ l).length + 1 - 1 - i = ((vs ++ l).length - 1 - i) + 1 by omega]; rfl
theorem VlM_push {l : List Va} {v : Va} (h : VlM g l) (hg : g1 21 = upd (g 21) l.length (enc v)) : VlM g1 (v :: l) := by
  intro i hi
  have hi : i < l.length + 1 := hi
  rw [hg]
  show _ = enc ((v :: l).getD (l.length + 1 - 1 - i) none)
  by_cases e : i = l.length
  · subst e; rw [updE, show l.length + 1 - 1 - l.length = 0 by omega]; rfl
  · rw [updN _ _ e, h i (by omega), show l.length + 1 - 1 - i = (l.length - 1 - i) + 1 by omega]; rfl
theorem VlM_top {v : Va} {l : List Va} (h : VlM g (v :: l)) : g 21 l.length = enc v := by
  have := h l.length (by show l.length < l.length + 1; omega)
  rw [this]
  show enc ((v :: l).getD (l.length + 1 - 1 - l.length) none) = _
  rw [show l.length + 1 - 1 - l.length = 0 by omega]; rfl
theorem opR_le {op : Nat} (h : op ≤ 33) : opR op ≤ 32 := by unfold opR; split <;> omega
theorem opR_33 {op : Nat} (h : op ≤ 33) : nI (opR op) = 32 ↔ op = 33 := by
  have h1 := opR_le h
  refine ⟨fun c => ?_, fun c => by rw [c]; rfl⟩
  have := (nI_eq (b := 32) (by omega) (by decide)).mp c
  unfold opR at this
  split at this <;> omega
theorem r_push {Kf : List Fr} {op i c e q : Nat} {rest : List Nat} (hM : MW x cv cf sv rc hp out inp cn g k) (hK : MK Kf g) (h14 : g 0 14 = enc (vrd i c)) (h15 : g 0 15 = nI (fe Kf)) (hl : Kf.length < 1002) (hop : op ≠ 33) (kk : ∀ g1, MW x cv cf sv rc hp out inp cn g1 k → MK ((op, i, rest, 0, e, q, []) :: Kf) g1 → post g1 k) : V_X12_push (nI (opR op)) (enc (hdl rest)) g k post := by
  obtain ⟨b1, b2, b3, b4, b5, b6⟩ := hK
  have vi : vp_in (nI Kf.length) 1002 := vp_in_nI hl (by decide)
  have ec : (nI Kf.length).toNatClampNeg = Kf.length := nI_clamp (by omega)
  unfold V_X12_push
  refine ⟨by rw [b1]; exact vi, eqI ⟨by show vp_in (g 0 12) 1002; rw [b1]; exact vi, eqI ⟨by show vp_in (g 0 12) 1002; rw [b1]; exact vi, eqI ⟨by show vp_in (g 0 12) 1002; rw [b1]; exact vi, eqI ⟨by show vp_in (g 0 12) 1002; rw [b1]; exact vi, eqI ⟨by show vp_in (g 0 12) 1002; rw [b1]; exact vi, eqI (eqI ?_)⟩⟩⟩⟩⟩⟩
  refine kk _ (MW_fr hM (fun c hc h => ?_) (fun j hj => ?_)) ⟨?_, ?_, ?_, ⟨?_, fun _ => ?_, ?_, ?_, ?_, ?_, FrM_fr Kf (fun c c1 c2 t ht => ?_) b4⟩, VlM_fr (fun t ht => rfl) b5, ?_⟩
  · rw [usZ hc, upB _ _ _ (by omega), upB _ _ _ (by omega), upB _ _ _ (by omega), upB _ _ _ (by omega), upB _ _ _ (by omega), upB _ _ _ (by omega)]
  · rw [us0, if_neg (by omega)]; rfl
  · show g 0 12 + 1 = nI (Kf.length + 1)
    rw [b1, nI_1]
  · exact b2
  · show g 0 20 = nI ((if op = 33 then 1 else 0) + ncal Kf)
    rw [if_neg hop, Nat.zero_add]; exact b3
  · show upd (g 15) (g 0 12).toNatClampNeg _ Kf.length = _
    rw [b1, ec, updE]
  · show upd (g 16) (g 0 12).toNatClampNeg (g 0 14) Kf.length = _
    rw [b1, ec, updE, h14]; rfl
  · show upd (g 17) (g 0 12).toNatClampNeg _ Kf.length = _
    rw [b1, ec, updE]
  · show upd (g 18) (g 0 12).toNatClampNeg _ Kf.length = _
    rw [b1, ec, updE]; rfl
  · show upd (g 19) (g 0 12).toNatClampNeg (g 0 15) Kf.length = nI (if op = 33 then e else fe Kf)
    rw [b1, ec, updE, h15, if_neg hop]
  · show upd (g 20) (g 0 12).toNatClampNeg (g 0 13) Kf.length = _
    rw [b1, ec, updE, b2]
  · have hcs : c = 15 ∨ c = 16 ∨ c = 17 ∨ c = 18 ∨ c = 19 ∨ c = 20 := by omega
    rcases hcs with rfl | rfl | rfl | rfl | rfl | rfl
    · show upd (g 15) (g 0 12).toNatClampNeg _ t = _
      rw [b1, ec, updN _ _ (by omega)]
    · show upd (g 16) (g 0 12).toNatClampNeg _ t = _
      rw [b1, ec, updN _ _ (by omega)]
    · show upd (g 17) (g 0 12).toNatClampNeg _ t = _
      rw [b1, ec, updN _ _ (by omega)]
    · show upd (g 18) (g 0 12).toNatClampNeg _ t = _
      rw [b1, ec, updN _ _ (by omega)]
    · show upd (g 19) (g 0 12).toNatClampNeg _ t = _
      rw [b1, ec, updN _ _ (by omega)]
    · show upd (g 20) (g 0 12).toNatClampNeg _ t = _
      rw [b1, ec, updN _ _ (by omega)]
  · exact b6
theorem top1 {f : Fr} {K : List Fr} (h : g 0 12 = nI (f :: K).length) : g 0 12 - 1 = nI K.length := by rw [h]; exact nI_pred _
/-- a form is asked for within the frame on top -/
theorem r_ask {op i st e q : Nat} {rest : List Nat} {vs : List Va} {K : List Fr} {w : Int32} (hM : MW x cv cf sv rc hp out inp cn g k) (hK : MK ((op, i, rest, st, e, q, vs) :: K) g) (hl : K.length < 1002) (kk : ∀ g1, MW x cv cf sv rc hp out inp cn g1 k → MK ((op, i, rest, st, e, q, vs) :: K) g1 → g1 0 14 = w → g1 0 15 = nI (fe ((op, i, rest, st, e, q, vs) :: K)) → g1 0 17 = 0 → post g1 k) : V_X12_ask w g k post := by
  obtain ⟨b1, b2, b3, b4, b5, b6⟩ := id hK
  have t1 := top1 b1
  unfold V_X12_ask
  refine eqI ⟨by show vp_in (g 0 12 - 1) 1002; rw [t1]; exact vp_in_nI hl (by decide), eqI (eqI ?_)⟩
  refine kk _ (MW_fr hM (fun c hc h => ?_) (fun j hj => ?_)) ⟨b1, b2, b3, FrM_fr _ (fun c c1 c2 t ht => ?_) b4, VlM_fr (fun t ht => rfl) b5, b6⟩ rfl ?_ rfl
  · rw [usZ hc, usZ hc, usZ hc]
  · rw [us0, if_neg (by omega), us0, if_neg (by omega), us0, if_neg (by omega)]
  · rw [usZ (by omega), usZ (by omega), usZ (by omega)]
  · show g 19 (g 0 12 - 1).toNatClampNeg = _
    rw [t1, nI_clamp (by omega)]; exact b4.2.2.2.2.1
theorem r_next {op i st e q y : Nat} {r : List Nat} {vs : List Va} {K : List Fr} (hx : XOK x) (hM : MW x cv cf sv rc hp out inp cn g k) (hC : ∀ i, x.C i → rc i = x.r0 i) (hK : MK ((op, i, y :: r, st, e, q, vs) :: K) g) (hy : LsC x (y :: r)) (hl : K.length < 1002) (kk : ∀ g1, MW x cv cf sv rc hp out inp cn g1 k → MK ((op, i, r, st, e, q, vs) :: K) g1 → g1 0 14 = enc (x.r0 y).1 → g1 0 15 = nI (fe ((op, i, r, st, e, q, vs) :: K)) → g1 0 17 = 0 → post g1 k) : V_X12_next g k post := by
  obtain ⟨b1, b2, b3, b4, b5, b6⟩ := id hK
  have t1 := top1 b1
  have vi : vp_in (nI K.length) 1002 := vp_in_nI hl (by decide)
  have ec : (nI K.length).toNatClampNeg = K.length := nI_clamp (by omega)
  have hyC := hy.2 y (by simp)
  have hyr := (hx.2.2.2.1 y hyC).1
  have hrn := hx.2.2.2.2.2.1
  have e17 : g 17 K.length = enc (vrd y 0) := b4.2.2.1
  have ht : enc (rc y).2 = enc (hdl r) := by rw [hC y hyC]; exact enc_hdl hy.1.2
  unfold V_X12_next
  rw [t1, ec, e17]
  refine ⟨vi, r_car1 hM.2.2.2.1 hyr (by omega) (by decide) ?_⟩
  rw [t1, ec, e17]
  refine ⟨vi, r_cdr1 hM.2.2.2.1 hyr (by omega) (by decide) ⟨vi, eqI ?_⟩⟩
  rw [ht, hC y hyC]
  have hM1 : MW x cv cf sv rc hp out inp cn (up g 17 K.length (enc (hdl r))) k := MW_fr hM (fun c hc h => upB _ _ _ (by omega)) (fun j hj => rfl)
  refine r_ask (op := op) (i := i) (rest := r) (st := st) (e := e) (q := q) (vs := vs) (K := K) hM1 ⟨b1, b2, b3, ⟨b4.1, b4.2.1, ?_, b4.2.2.2.1, b4.2.2.2.2.1, b4.2.2.2.2.2.1, FrM_fr K (fun c c1 c2 t ht => ?_) b4.2.2.2.2.2.2⟩, VlM_fr (fun t ht => rfl) b5, b6⟩ hl (fun g1 m1 m2 m3 m4 m5 => kk g1 m1 m2 m3 m4 m5)
  · show upd (g 17) K.length _ K.length = _
    rw [updE]
  · by_cases e9 : c = 17
    · subst e9
      show upd (g 17) K.length _ t = _
      rw [updN _ _ (by omega)]
    · rw [upB _ _ _ e9]
theorem r_pop {op i st e q : Nat} {rest : List Nat} {vs : List Va} {K : List Fr} {w : Int32} (hM : MW x cv cf sv rc hp out inp cn g k) (hK : MK ((op, i, rest, st, e, q, vs) :: K) g) (hl : K.length < 1002) (hop : op ≤ 33) (kk : ∀ g1, MW x cv cf sv rc hp out inp cn g1 k → MK K g1 → g1 0 16 = w → g1 0 17 = 1 → (∀ c, c ≠ 0 → g1 c = g c) → post g1 k) : V_X12_pop w g k post := by
  obtain ⟨b1, b2, b3, b4, b5, b6⟩ := id hK
  have t1 := top1 b1
  have vi : vp_in (nI K.length) 1002 := vp_in_nI hl (by decide)
  have ec : (nI K.length).toNatClampNeg = K.length := nI_clamp (by omega)
  have e15 : g 15 K.length = nI (opR op) := b4.1
  have e20 : g 20 K.length = nI (allv K).length := b4.2.2.2.2.2.1
  have e12 : (us g 12 (g 0 12 - 1)) 0 12 = nI K.length := t1
  unfold V_X12_pop
  refine eqI ?_
  rw [e12, ec]
  have fin : ∀ g1 : St, (∀ c, c ≠ 0 → g1 c = g c) → (∀ j, (j < 12 ∨ j = 19 ∨ 21 ≤ j) → g1 0 j = g 0 j) → g1 0 12 = nI K.length → g1 0 13 = nI (allv K).length → g1 0 20 = nI (ncal K) → g1 0 18 = g 0 18 → g1 0 16 = w → g1 0 17 = 1 → post g1 k := by
    intro g1 f1 f2 f3 f4 f5 f6 f7 f8
    refine kk g1 (MW_fr hM (fun c hc _ => f1 c hc) f2) ⟨f3, f4, f5, FrM_fr K (fun c c1 c2 t ht => by rw [f1 c (by omega)]) b4.2.2.2.2.2.2, VlM_fr (fun t ht => by rw [f1 21 (by decide)]) (VlM_tl b5), f6.trans b6⟩ f7 f8 f1
  have b3 : g 0 20 = nI ((if op = 33 then 1 else 0) + ncal K) := b3
  refine ⟨vi, fun c => ⟨vi, eqI (eqI (eqI (fin _ (fun c hc => ?_) (fun j hj => ?_) t1 ?_ ?_ rfl rfl rfl)))⟩, fun c => eqI ⟨?_, eqI (eqI (eqI (fin _ (fun c hc => ?_) (fun j hj => ?_) t1 ?_ ?_ rfl rfl rfl)))⟩⟩
  · rw [usZ hc, usZ hc, usZ hc, usZ hc]
  · rw [us0, if_neg (by omega), us0, if_neg (by omega), us0, if_neg (by omega), us0, if_neg (by omega)]
  · show g 20 K.length = _
    exact e20
  · show g 0 20 = _
    rw [b3, if_neg, Nat.zero_add]
    intro e9
    apply c
    show g 15 K.length = 32
    rw [e15, e9]; rfl
  · show vp_in (g 0 12 - 1) 1002
    rw [t1]; exact vi
  · rw [usZ hc, usZ hc, usZ hc, usZ hc, usZ hc]
  · rw [us0, if_neg (by omega), us0, if_neg (by omega), us0, if_neg (by omega), us0, if_neg (by omega), us0, if_neg (by omega)]
  · show g 20 (g 0 12 - 1).toNatClampNeg = _
    rw [t1, ec]; exact e20
  · show g 0 20 - 1 = _
    have e9 : op = 33 := (opR_33 hop).mp (e15.symm.trans c)
    rw [b3, if_pos e9, Nat.add_comm]; exact nI_pred _
theorem r_run0 {n : Nat} {post : Int32 → St → StL → Prop} (h18 : g 0 18 = 0) (h17 : g 0 17 = 0) (kk : V_X12_evaluate n g k (fun g1 k1 => V_X12_run_69 post n g1 k1)) : V_X12_run_69 post (n + 1) g k := by
  unfold V_X12_run_69
  exact ⟨fun c => absurd h18 c, fun _ => ⟨fun _ => ⟨fun _ => kk, fun c => absurd h17 c⟩, fun c => absurd h17 c⟩⟩
theorem r_run1 {n : Nat} {f : Fr} {K : List Fr} {post : Int32 → St → StL → Prop} (h18 : g 0 18 = 0) (h17 : g 0 17 = 1) (h12 : g 0 12 = nI (f :: K).length) (hl : K.length < 100000) (kk : V_X12_resume n g k (fun g1 k1 => V_X12_run_69 post n g1 k1)) : V_X12_run_69 post (n + 1) g k := by
  have h0 : ¬ g 0 17 = 0 := by rw [h17]; decide
  unfold V_X12_run_69
  exact ⟨fun c => absurd h18 c, fun _ => ⟨fun c => absurd c h0, fun _ => ⟨fun c => by rw [h12] at c; exact absurd c (nI_nle (n := K.length + 1) (by omega) (by omega)), fun _ => ⟨fun c => absurd c h0, fun _ => kk⟩⟩⟩⟩
/-- how a value that came back is taken up: by what the frame means -/
theorem r_res {op i st e q n : Nat} {rest : List Nat} {vs : List Va} {K : List Fr} (hK : MK ((op, i, rest, st, e, q, vs) :: K) g) (hl : K.length < 1002) (hr : ∀ y ∈ rest, y < 1100) (kk : V_X12_resume_33 post n (nI (opR op)) (if rest = [] then 1 else 0) g k) : V_X12_resume n g k post := by
  obtain ⟨b1, b2, b3, b4, b5, b6⟩ := id hK
  have t1 := top1 b1
  have vi : vp_in (nI K.length) 1002 := vp_in_nI hl (by decide)
  have ec : (nI K.length).toNatClampNeg = K.length := nI_clamp (by omega)
  have e15 : g 15 K.length = nI (opR op) := b4.1
  have e17 : g 17 K.length = enc (hdl rest) := b4.2.2.1
  unfold V_X12_resume
  rw [t1, ec, e15]
  refine ⟨vi, eqI ⟨vi, ?_⟩⟩
  rw [e17]
  cases rest with
  | nil => exact ⟨fun c => absurd rfl c, fun _ => kk⟩
  | cons y r => exact ⟨fun _ => kk, fun c => absurd c (rd_nnil (hr y (by simp)))⟩
end RF
