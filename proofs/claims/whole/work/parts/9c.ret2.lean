-- ===== a value comes back to do, a body, while, catch, or among parts =====
section RU
variable {x : Cx} {G0 : SG} {N : Nat} {cv cf : Int32} {sv : Nat → Option Va} {rc : Nat → Va × Va} {hp : Nat → Option Ob} {out : List Nat} {inp : List Int} {cn : Nat → Int32}
theorem MK_st {g : St} {op i st st1 e q : Nat} {rest : List Nat} {vs : List Va} {K : List Fr} (h : MK ((op, i, rest, st, e, q, vs) :: K) g) : MK ((op, i, rest, st1, e, q, vs) :: K) (up g 18 K.length (nI st1)) := by
  obtain ⟨b1, b2, b3, ⟨a1, a2, a3, a4, a5, a6, a7⟩, b5, b6⟩ := h
  refine ⟨b1, b2, b3, ⟨a1, a2, a3, ?_, a5, a6, FrM_fr K (fun c c1 c2 t ht => ?_) a7⟩, VlM_fr (fun t ht => rfl) b5, b6⟩
  · show upd (g 18) K.length _ K.length = _
    rw [updE]
  · by_cases e9 : c = 18
    · subst e9
      show upd (g 18) K.length _ t = _
      rw [updN _ _ (by omega)]
    · rw [upB _ _ _ e9]
theorem MK_rest {g : St} {op i st e q : Nat} {rest rest1 : List Nat} {vs : List Va} {K : List Fr} (h : MK ((op, i, rest, st, e, q, vs) :: K) g) : MK ((op, i, rest1, st, e, q, vs) :: K) (up g 17 K.length (enc (hdl rest1))) := by
  obtain ⟨b1, b2, b3, ⟨a1, a2, a3, a4, a5, a6, a7⟩, b5, b6⟩ := h
  refine ⟨b1, b2, b3, ⟨a1, a2, ?_, a4, a5, a6, FrM_fr K (fun c c1 c2 t ht => ?_) a7⟩, VlM_fr (fun t ht => rfl) b5, b6⟩
  · show upd (g 17) K.length _ K.length = _
    rw [updE]
  · by_cases e9 : c = 17
    · subst e9
      show upd (g 17) K.length _ t = _
      rw [updN _ _ (by omega)]
    · rw [upB _ _ _ e9]
theorem MK_val {g : St} {op i st e q : Nat} {rest : List Nat} {vs : List Va} {v : Va} {K : List Fr} (h : MK ((op, i, rest, st, e, q, vs) :: K) g) : MK ((op, i, rest, st, e, q, v :: vs) :: K) (us (up g 21 (vs ++ allv K).length (enc v)) 13 (nI ((vs ++ allv K).length + 1))) := by
  obtain ⟨b1, b2, b3, ⟨a1, a2, a3, a4, a5, a6, a7⟩, b5, b6⟩ := h
  refine ⟨b1, rfl, b3, ⟨a1, a2, a3, a4, a5, a6, FrM_fr K (fun c c1 c2 t ht => ?_) a7⟩, VlM_push (l := vs ++ allv K) b5 rfl, b6⟩
  rw [usZ (by omega), upB _ _ _ (by omega)]
theorem MW_up {g : St} {k : StL} {a t : Nat} {w : Int32} (h : MW x cv cf sv rc hp out inp cn g k) (h1 : 15 ≤ a) (h2 : a ≤ 21) : MW x cv cf sv rc hp out inp cn (up g a t w) k := MW_fr h (fun c hc h => upB _ _ _ (by omega)) (fun j hj => by rw [upB _ _ _ (by omega)])
theorem MW_us {g : St} {k : StL} {a : Nat} {w : Int32} (h : MW x cv cf sv rc hp out inp cn g k) (h1 : 12 ≤ a) (h2 : a ≤ 20) (h3 : a ≠ 19) : MW x cv cf sv rc hp out inp cn (us g a w) k := MW_fr h (fun c hc h => usZ hc) (fun j hj => by rw [us0, if_neg (by omega)])
theorem MK_us {g : St} {a : Nat} {w : Int32} {Kf : List Fr} (h : MK Kf g) (h1 : a ≠ 12) (h2 : a ≠ 13) (h3 : a ≠ 20) (h4 : a ≠ 18) : MK Kf (us g a w) := by
  obtain ⟨b1, b2, b3, b4, b5, b6⟩ := h
  exact ⟨by rw [us0, if_neg (by omega)]; exact b1, by rw [us0, if_neg (by omega)]; exact b2, by rw [us0, if_neg (by omega)]; exact b3, FrM_fr Kf (fun c c1 c2 t ht => by rw [usZ (by omega)]) b4, VlM_fr (fun t ht => rfl) b5, by rw [us0, if_neg (by omega)]; exact b6⟩
/-- the next part is asked for; the value goes -/
theorem s_nextD {K : List Fr} {op i st e q p y r1 D p1 : Nat} {r : List Nat} {vs : List Va} {v : Va} {sc : List (List Nat)} (hX : XC x G0 N) (hW : PW x sv rc hp out inp) (hCt : CtK 1 ((op, i, y :: r, st, e, q, vs) :: K) cn) (hK0 : ∃ sc0, Cn x hp ((op, i, y :: r, st, e, q, vs) :: K) p 1 sc0) (hF : RtF x hp K op i st e q p D p1 sc (y :: r) vs) (c7 : x.c p1 = 7) (hE : xE x D sc (x.r0 y).1 (p1 + 1) r1) (hr1 : r1 < x.tp) (hFr : FrK x D r1 sc i r st q vs op)
    (hres : ∀ (g : St) (k : StL) (post : St → StL → Prop) (n : Nat), MK ((op, i, y :: r, st, e, q, vs) :: K) g → V_X12_next g k post → V_X12_resume_33 post n (nI (opR op)) 0 g k) : Stq x G0 N cv cf ((1, p, v), (op, i, y :: r, st, e, q, vs) :: K, sv, rc, hp, out, inp, cn) := by
  obtain ⟨sc0, hK0⟩ := hK0
  obtain ⟨h1, h2, h3, h4, h5, h6, h7, h8, h9, h10, h11⟩ := hF
  obtain ⟨st0, e0, hst0, ecl, hn⟩ := CtK_lim hCt
  obtain ⟨l1, l2, l3, l4⟩ := Cn_LB hK0 (Nat.le_refl _) hn
  have l1 : K.length + 1 ≤ 372 := l1
  have htp := hX.1.2.2.2.2.2.2
  have hrn := hX.1.2.2.2.2.2.1
  have hCr := hW.2.2.1
  have hyC := h2.2 y (by simp)
  refine ⟨((0, p1 + 1, (x.r0 y).1), (op, i, r, st, e, q, vs) :: K, sv, rc, hp, out, inp, cn), ⟨hW, CtK_fr hCt (by omega), by rw [← hCr y hyC]; exact (hW.2.2.2.1 y (hX.1.2.2.2.1 y hyC).1).1, (hX.1.2.2.2.1 y hyC).2.1, D, sc, r1, hE, hr1, h6, h1, LsC_tl h2, h3, h4, D, r1, Nat.le_refl _, h6, Chn_mono 0 _ _ _ (Nat.zero_le _) rfl, hr1, hFr, h10, h11⟩, ?_, ?_, ?_⟩
  · show _ + (K.length + 1) + 1 < _ + (K.length + 1) + 2
    omega
  · intro G post n i2 hG hn2 hi2 kk
    obtain ⟨φ, b, lo, hi, hG⟩ := hG
    obtain ⟨n, rfl⟩ : ∃ n', n = n' + 12 := ⟨n - 12, by omega⟩
    refine i_chain 12 p p1 n i2 G hX h7 hG (by omega) (fun G1 m i3 g1 b1 b2 => ?_)
    obtain ⟨m, rfl⟩ : ∃ n', m = n' + 1 := ⟨m - 1, by omega⟩
    exact i_drop (n := m) (y := gv v) hX g1 (by omega) rfl (by omega) c7 (by rw [List.length_map]; omega) (fun G2 g2 => kk G2 m (i3 + 1) ⟨φ, b, lo, hi, g2⟩ (by omega) (by omega))
  · intro g k post n hR hn2 kk
    obtain ⟨hM, hK2, h16, h17⟩ := hR
    refine r_run1 hK2.2.2.2.2.2 h17 hK2.1 (by omega) (r_res hK2 (by omega) (fun y hy => by have := (hX.1.2.2.2.1 y (h2.2 y hy)).1; omega) (hres g k _ n hK2 ?_))
    exact r_next hX.1 hM hCr hK2 h2 (by omega) (fun g3 s1 s2 s3 s4 s5 => kk g3 k ⟨s1, s2, s3, s4, s5⟩)
theorem s_do {K : List Fr} {i st e q p : Nat} {rest : List Nat} {vs : List Va} {v : Va} (hX : XC x G0 N) (h : PA x ((1, p, v), (3, i, rest, st, e, q, vs) :: K, sv, rc, hp, out, inp, cn)) : Stq x G0 N cv cf ((1, p, v), (3, i, rest, st, e, q, vs) :: K, sv, rc, hp, out, inp, cn) := by
  obtain ⟨hW, hCt, hv, ⟨sc0, hK0⟩, D, p1, sc, h1, h2, h3, h4, h5, h6, h7, h8, h9, h10, h11⟩ := rtF h
  obtain ⟨st0, e0, hst0, ecl, hn⟩ := CtK_lim hCt
  obtain ⟨l1, l2, l3, l4⟩ := Cn_LB hK0 (Nat.le_refl _) hn
  have l1 : K.length + 1 ≤ 372 := l1
  have htp := hX.1.2.2.2.2.2.2
  have hrn := hX.1.2.2.2.2.2.1
  have hlt := AtE_lt (rc := x.r0) (nam := x.nam) (K := x.K) (C := x.C) (c := x.c) (ent := x.ent) D sc
  have hCr := hW.2.2.1
  have askOK : ∀ y, x.C y → vok (x.r0 y).1 ∧ ∀ s, (x.r0 y).1 = vsym s → s < x.sy := fun y hy => ⟨by rw [← hCr y hy]; exact (hW.2.2.2.1 y (hX.1.2.2.2.1 y hy).1).1, (hX.1.2.2.2.1 y hy).2.1⟩
  have hin : ∀ z ∈ rest, z < 1100 := fun z hz => by have := (hX.1.2.2.2.1 z (h2.2 z hz)).1; omega
  obtain ⟨rfl, hR⟩ := id h9
  have hK := h11 (by decide)
  cases rest with
  | cons y r =>
    obtain ⟨c7, r1, hE, hR2⟩ := hR
    have := AtR_le hlt r r1 q hR2
    refine s_nextD hX hW hCt ⟨sc0, hK0⟩ ⟨h1, h2, h3, h4, h5, h6, h7, h8, h9, h10, h11⟩ c7 hE (by omega) ⟨rfl, hR2⟩ (fun g k post n _ hnx => ?_)
    unfold V_X12_resume_33
    exact ⟨fun c => absurd c (by decide), fun _ => ⟨fun _ => hnx, fun c => absurd rfl c⟩, fun c => absurd c (by decide), fun c => absurd c (by decide), fun c => absurd c (by decide), fun c => absurd c (by decide), fun c1 c2 c3 c4 c6 c32 => absurd rfl c2⟩
  | nil =>
    have ep : p1 = q := hR
    subst ep
    refine ⟨((1, p1, v), K, sv, rc, hp, out, inp, cn), ⟨hW, CtK_pop hCt (Nat.le_refl _), hv, sc, Cn_mono K p1 _ 1 sc (by omega) hK⟩, ?_, ?_, ?_⟩
    · show _ + K.length + 2 < _ + (K.length + 1) + 2
      omega
    · intro G post n i2 hG hn2 hi2 kk
      obtain ⟨φ, b, lo, hi, hG⟩ := hG
      obtain ⟨n, rfl⟩ : ∃ n', n = n' + 12 := ⟨n - 12, by omega⟩
      refine i_chain 12 p p1 n i2 G hX h7 hG (by omega) (fun G1 m i3 g1 b1 b2 => ?_)
      exact kk G1 m i3 ⟨φ, b, lo, hi, g1⟩ (by omega) (by omega)
    · intro g k post n hR hn2 kk
      obtain ⟨hM, hK2, h16, h17⟩ := hR
      refine r_run1 hK2.2.2.2.2.2 h17 hK2.1 (by omega) (r_res hK2 (by omega) hin ?_)
      unfold V_X12_resume_33
      refine ⟨fun c => absurd c (by decide), fun _ => ⟨fun c => absurd c (by decide), fun _ => ?_⟩, fun c => absurd c (by decide), fun c => absurd c (by decide), fun c => absurd c (by decide), fun c => absurd c (by decide), fun c1 c2 c3 c4 c6 c32 => absurd rfl c2⟩
      refine r_pop hM hK2 (by omega) (by decide) (fun g3 s1 s2 s3 s4 s5 => kk g3 k ⟨s1, s2, s3.trans h16, s4⟩)
theorem s_body {K : List Fr} {i st e q p : Nat} {rest : List Nat} {vs : List Va} {v : Va} (hX : XC x G0 N) (h : PA x ((1, p, v), (33, i, rest, st, e, q, vs) :: K, sv, rc, hp, out, inp, cn)) : Stq x G0 N cv cf ((1, p, v), (33, i, rest, st, e, q, vs) :: K, sv, rc, hp, out, inp, cn) := by
  obtain ⟨hW, hCt, hv, ⟨sc0, hK0⟩, D, p1, sc, h1, h2, h3, h4, h5, h6, h7, h8, h9, h10, h11⟩ := rtF h
  obtain ⟨st0, e0, hst0, ecl, hn⟩ := CtK_lim hCt
  obtain ⟨l1, l2, l3, l4⟩ := Cn_LB hK0 (Nat.le_refl _) hn
  have l1 : K.length + 1 ≤ 372 := l1
  have htp := hX.1.2.2.2.2.2.2
  have hrn := hX.1.2.2.2.2.2.1
  have hlt := AtE_lt (rc := x.r0) (nam := x.nam) (K := x.K) (C := x.C) (c := x.c) (ent := x.ent) D sc
  have hCr := hW.2.2.1
  have askOK : ∀ y, x.C y → vok (x.r0 y).1 ∧ ∀ s, (x.r0 y).1 = vsym s → s < x.sy := fun y hy => ⟨by rw [← hCr y hy]; exact (hW.2.2.2.1 y (hX.1.2.2.2.1 y hy).1).1, (hX.1.2.2.2.1 y hy).2.1⟩
  have hin : ∀ z ∈ rest, z < 1100 := fun z hz => by have := (hX.1.2.2.2.1 z (h2.2 z hz)).1; omega
  obtain ⟨-, rfl, hD12, pe, hR, c11, hpe⟩ : 33 = 33 ∧ vs = [] ∧ D ≤ 12 ∧ ∃ pe, AtR x.r0 x.c (xE x D sc) rest p1 pe ∧ x.c pe = 11 ∧ pe < x.tp := by
    rcases h9 with h9 | ⟨h9, -⟩
    · exact h9
    · omega
  obtain ⟨hEn, sc1, hK⟩ := h10 rfl
  cases rest with
  | cons y r =>
    obtain ⟨c7, r1, hE, hR2⟩ := hR
    have := AtR_le hlt r r1 pe hR2
    refine s_nextD hX hW hCt ⟨sc0, hK0⟩ ⟨h1, h2, h3, h4, h5, h6, h7, h8, h9, h10, h11⟩ c7 hE (by omega) (Or.inl ⟨rfl, rfl, hD12, pe, hR2, c11, hpe⟩) (fun g k post n _ hnx => ?_)
    unfold V_X12_resume_33
    exact ⟨fun c => absurd c (by decide), fun c => absurd c (by decide), fun c => absurd c (by decide), fun c => absurd c (by decide), fun c => absurd c (by decide), fun _ => ⟨fun _ => hnx, fun c => absurd rfl c⟩, fun c1 c2 c3 c4 c6 c32 => absurd rfl c32⟩
  | nil =>
    have ep : p1 = pe := hR
    subst ep
    have l3 : ((gv (vnum (q : Int)) :: (some (.inr e) : Gw) :: ccl K)).length ≤ 60 := l3
    have l3 : (ccl K).length + 2 ≤ 60 := l3
    refine ⟨((1, q, v), K, sv, rc, hp, out, inp, cn), ⟨hW, CtK_pop hCt (Nat.le_refl _), hv, sc1, Cn_mono K q _ 1 sc1 (by omega) hK⟩, ?_, ?_, ?_⟩
    · show _ + K.length + 2 < _ + (K.length + 1) + 2
      omega
    · intro G post n i2 hG hn2 hi2 kk
      obtain ⟨φ, b, lo, hi, hG⟩ := hG
      obtain ⟨n, rfl⟩ : ∃ n', n = n' + 12 := ⟨n - 12, by omega⟩
      refine i_chain 12 p p1 n i2 G hX h7 hG (by omega) (fun G1 m i3 g1 b1 b2 => ?_)
      obtain ⟨m, rfl⟩ : ∃ n', m = n' + 1 := ⟨m - 1, by omega⟩
      exact i_ret (n := m) (q := q) (y := some (.inr e)) (LC1 := ccl K) hX g1 (by omega) rfl (by omega) c11 (by omega) (by omega) (fun G2 g2 => kk G2 m (i3 + 1) ⟨φ, b, lo, hi, g2⟩ (by omega) (by omega))
    · intro g k post n hR hn2 kk
      obtain ⟨hM, hK2, h16, h17⟩ := hR
      refine r_run1 hK2.2.2.2.2.2 h17 hK2.1 (by omega) (r_res hK2 (by omega) hin ?_)
      unfold V_X12_resume_33
      refine ⟨fun c => absurd c (by decide), fun c => absurd c (by decide), fun c => absurd c (by decide), fun c => absurd c (by decide), fun c => absurd c (by decide), fun _ => ⟨fun c => absurd c (by decide), fun _ => ?_⟩, fun c1 c2 c3 c4 c6 c32 => absurd rfl c32⟩
      refine r_pop hM hK2 (by omega) (by decide) (fun g3 s1 s2 s3 s4 s5 => kk g3 k ⟨s1, s2, s3.trans h16, s4⟩)
theorem r_catch0 {g : St} {k : StL} {i e q n : Nat} {rest : List Nat} {v : Va} {K : List Fr} {post : St → StL → Prop} (hM : MW x cv cf sv rc hp out inp cn g k) (hK : MK ((7, i, rest, 0, e, q, []) :: K) g) (h16 : g 0 16 = enc v) (h17 : g 0 17 = 1) (hl : K.length < 1002) (hl2 : (allv K).length < 1100)
    (kk : ∀ g1, MW x cv cf sv rc hp out inp cn g1 k → MK ((7, i, rest, 1, e, q, [v]) :: K) g1 → g1 0 16 = enc vnil → g1 0 17 = 1 → (rest ≠ [] → V_X12_next g1 k post) ∧ (rest = [] → V_X12_pop (g1 0 16) g1 k post)) : V_X12_resume_33 post n (nI (opR 7)) (if rest = [] then 1 else 0) g k := by
  have t1 := top1 hK.1
  have ec : (nI K.length).toNatClampNeg = K.length := nI_clamp (by omega)
  have vi : vp_in (nI K.length) 1002 := vp_in_nI hl (by decide)
  have e18 : g 18 K.length = 0 := hK.2.2.2.1.2.2.2.1
  have e13 : g 0 13 = nI (allv K).length := hK.2.1
  unfold V_X12_resume_33
  refine ⟨fun c => absurd c (by decide), fun c => absurd c (by decide), fun c => absurd c (by decide), fun c => absurd c (by decide), fun _ => ?_, fun c => absurd c (by decide), fun c1 c2 c3 c4 c6 c32 => absurd rfl c6⟩
  rw [t1, ec]
  refine ⟨vi, fun c => absurd e18 c, fun _ => ⟨vi, eqI ?_⟩⟩
  have h1 := MK_st (st1 := 1) hK
  have m1 := MW_up (a := 18) (t := K.length) (w := nI 1) hM (by decide) (by decide)
  have e13' : (up g 18 K.length 1) 0 13 = nI (allv K).length := e13
  rw [e13', nI_clamp (by omega), show (up g 18 K.length 1) 0 16 = enc v from h16]
  refine ⟨vp_in_nI hl2 (by decide), eqI ?_⟩
  have e13'' : (up (up g 18 K.length 1) 21 (allv K).length (enc v)) 0 13 = nI (allv K).length := e13
  rw [e13'', nI_1]
  refine eqI (eqI ?_)
  have h2 := MK_us (a := 16) (w := enc vnil) (MK_val (v := v) h1) (by decide) (by decide) (by decide) (by decide)
  have m2 : MW x cv cf sv rc hp out inp cn (us (us (up (up g 18 K.length 1) 21 (allv K).length (enc v)) 13 (nI ((allv K).length + 1))) 16 (enc vnil)) k := MW_us (MW_us (MW_up m1 (by decide) (by decide)) (by decide) (by decide) (by decide)) (by decide) (by decide) (by decide)
  obtain ⟨k1, k0⟩ := kk _ m2 h2 rfl h17
  cases rest with
  | nil => exact ⟨fun c => absurd c (by decide), fun _ => k0 rfl⟩
  | cons y r => exact ⟨fun _ => k1 (fun c => (by cases c)), fun c => absurd rfl c⟩
theorem s_catch {K : List Fr} {i st e q p : Nat} {rest : List Nat} {vs : List Va} {v : Va} (hX : XC x G0 N) (h : PA x ((1, p, v), (7, i, rest, st, e, q, vs) :: K, sv, rc, hp, out, inp, cn)) : Stq x G0 N cv cf ((1, p, v), (7, i, rest, st, e, q, vs) :: K, sv, rc, hp, out, inp, cn) := by
  obtain ⟨hW, hCt, hv, ⟨sc0, hK0⟩, D, p1, sc, h1, h2, h3, h4, h5, h6, h7, h8, h9, h10, h11⟩ := rtF h
  obtain ⟨st0, e0, hst0, ecl, hn⟩ := CtK_lim hCt
  obtain ⟨l1, l2, l3, l4⟩ := Cn_LB hK0 (Nat.le_refl _) hn
  have l1 : K.length + 1 ≤ 372 := l1
  have htp := hX.1.2.2.2.2.2.2
  have hrn := hX.1.2.2.2.2.2.1
  have hlt := AtE_lt (rc := x.r0) (nam := x.nam) (K := x.K) (C := x.C) (c := x.c) (ent := x.ent) D sc
  have hCr := hW.2.2.1
  have askOK : ∀ y, x.C y → vok (x.r0 y).1 ∧ ∀ s, (x.r0 y).1 = vsym s → s < x.sy := fun y hy => ⟨by rw [← hCr y hy]; exact (hW.2.2.2.1 y (hX.1.2.2.2.1 y hy).1).1, (hX.1.2.2.2.1 y hy).2.1⟩
  have hin : ∀ z ∈ rest, z < 1100 := fun z hz => by have := (hX.1.2.2.2.1 z (h2.2 z hz)).1; omega
  have hK := h11 (by decide)
  have hcc := (Cn_all K q _ sc hK).2.2.2.2.1
  have hca := (Cn_all K q _ sc hK).2.2.2.1
  have hal := (Cn_all K q _ sc hK).2.1
  have hst9 : (allv K).length ≤ 1000 := by
    obtain ⟨st9, dp9, -, -, b3, -, b5, -⟩ := hCt
    have b5 : (vs ++ allv K).length + 1 ≤ st9 := b5
    rw [List.length_append] at b5
    omega
  obtain ⟨p2, c13, eq, ⟨rfl, rfl, c12, c12', hB⟩ | ⟨rfl, ⟨t, rfl⟩, hR⟩⟩ := id h9
  · have l2 : (cvl K).length ≤ 1488 := l2
    have step : ∀ (φ : Nat → Nat) (b lo hi : Nat) (G1 : SG) (m i3 : Nat) (post : Int32 → SG → Prop), i3 < 1000000 → CG x G0 φ b lo hi sv rc hp out inp cn (gv v :: (cvl K).map gv) (ccl K) (cat K) p1 G1 → (∀ G2, CG x G0 φ b lo hi sv rc hp out inp cn ((cvl K).map gv) (ccl K) (gv (vnum (q : Int)) :: gv (vnum ((2 * ncal K : Nat) : Int)) :: gv (vnum ((cvl K).length : Int)) :: gv v :: cat K) (p1 + 2) G2 → V_X7_run_32 N post m (nI (i3 + 1)) G2) → V_X7_run_32 N post (m + 1) (nI i3) G1 := by
      intro φ b lo hi G1 m i3 post hii g1 kk
      refine i_catch (n := m) (y := gv v) (LV1 := (cvl K).map gv) hX g1 hii rfl (by have := (AtB_le hlt rest (p1 + 2) p2 hB).1; omega) c12 c12' (by rw [List.length_map]; omega) (by omega) (fun G2 g2 => kk G2 ?_)
      rw [List.length_map, hcc] at g2
      exact g2
    cases rest with
    | nil =>
      obtain ⟨d1, d2, d3⟩ := hB
      refine ⟨((1, q, vnil), K, sv, rc, hp, out, inp, cn), ⟨hW, CtK_pop hCt (Nat.le_refl _), trivial, sc, Cn_mono K q _ 1 sc (by omega) hK⟩, ?_, ?_, ?_⟩
      · show _ + K.length + 2 < _ + (K.length + 1) + 2
        omega
      · intro G post n i2 hG hn2 hi2 kk
        obtain ⟨φ, b, lo, hi, hG⟩ := hG
        obtain ⟨n, rfl⟩ : ∃ n', n = n' + 12 := ⟨n - 12, by omega⟩
        refine i_chain 12 p p1 n i2 G hX h7 hG (by omega) (fun G1 m i3 g1 b1 b2 => ?_)
        obtain ⟨m, rfl⟩ : ∃ n', m = n' + 3 := ⟨m - 3, by omega⟩
        refine step φ b lo hi G1 (m + 2) i3 post (by omega) g1 (fun G2 g2 => ?_)
        refine i_word (n := m + 1) (y := gv vnil) hX g2 (by omega) (by omega) d1 (d2.trans wd_nil.symm) (by rw [List.length_map]; omega) (fun G3 g3 => ?_)
        refine i_endc (n := m) hX g3 (by omega) rfl (by omega) (by rw [← d3]; exact c13) (by show (cat K).length + 4 ≤ 1488; omega) (fun G4 g4 => kk G4 m (i3 + 1 + 1 + 1) ⟨φ, b, lo, hi, ?_⟩ (by omega) (by omega))
        rw [eq, d3]; exact g4
      · intro g k post n hR hn2 kk
        obtain ⟨hM, hK2, h16, h17⟩ := hR
        refine r_run1 hK2.2.2.2.2.2 h17 hK2.1 (by omega) (r_res hK2 (by omega) hin ?_)
        refine r_catch0 hM hK2 h16 h17 (by omega) (by omega) (fun g1 m1 m2 m3 m4 => ⟨fun c => absurd rfl c, fun _ => ?_⟩)
        rw [m3]
        exact r_pop m1 m2 (by omega) (by decide) (fun g3 s1 s2 s3 s4 s5 => kk g3 k ⟨s1, s2, s3, s4⟩)
    | cons y r =>
      obtain ⟨r1, hE, hR2⟩ := hB
      have hle := AtR_le hlt r r1 p2 hR2
      have hyC := h2.2 y (by simp)
      refine ⟨((0, p1 + 2, (x.r0 y).1), (7, i, r, 1, e, q, [v]) :: K, sv, rc, hp, out, inp, cn), ⟨hW, CtK_fr hCt (by show 1 + 0 ≤ 0 + 1; omega), (askOK y hyC).1, (askOK y hyC).2, D, sc, r1, hE, by omega, h6, fun w hw => ?_, LsC_tl h2, Nat.le_refl _, h4, D, r1, Nat.le_refl _, h6, Chn_mono 0 _ _ _ (Nat.zero_le _) rfl, by omega, ⟨p2, c13, eq, Or.inr ⟨rfl, ⟨v, rfl⟩, hR2⟩⟩, fun c => absurd c (by decide), fun _ => hK⟩, ?_, ?_, ?_⟩
      · rw [List.mem_singleton] at hw; rw [hw]; exact hv
      · show _ + (K.length + 1) + 1 < _ + (K.length + 1) + 2
        omega
      · intro G post n i2 hG hn2 hi2 kk
        obtain ⟨φ, b, lo, hi, hG⟩ := hG
        obtain ⟨n, rfl⟩ : ∃ n', n = n' + 12 := ⟨n - 12, by omega⟩
        refine i_chain 12 p p1 n i2 G hX h7 hG (by omega) (fun G1 m i3 g1 b1 b2 => ?_)
        obtain ⟨m, rfl⟩ : ∃ n', m = n' + 1 := ⟨m - 1, by omega⟩
        exact step φ b lo hi G1 m i3 post (by omega) g1 (fun G2 g2 => kk G2 m (i3 + 1) ⟨φ, b, lo, hi, g2⟩ (by omega) (by omega))
      · intro g k post n hR hn2 kk
        obtain ⟨hM, hK2, h16, h17⟩ := hR
        refine r_run1 hK2.2.2.2.2.2 h17 hK2.1 (by omega) (r_res hK2 (by omega) hin ?_)
        refine r_catch0 hM hK2 h16 h17 (by omega) (by omega) (fun g1 m1 m2 m3 m4 => ⟨fun _ => ?_, fun c => (by cases c)⟩)
        exact r_next hX.1 m1 hCr m2 h2 (by omega) (fun g3 s1 s2 s3 s4 s5 => kk g3 k ⟨s1, s2, s3, s4, s5⟩)
  · have e18 : ∀ g : St, MK ((7, i, rest, 1, e, q, [t]) :: K) g → g 0 12 - 1 = nI K.length ∧ g 18 K.length = 1 := fun g hK2 => ⟨top1 hK2.1, hK2.2.2.2.1.2.2.2.1⟩
    cases rest with
    | cons y r =>
      obtain ⟨c7, r1, hE, hR2⟩ := hR
      have := AtR_le hlt r r1 p2 hR2
      refine s_nextD hX hW hCt ⟨sc0, hK0⟩ ⟨h1, h2, h3, h4, h5, h6, h7, h8, h9, h10, h11⟩ c7 hE (by omega) ⟨p2, c13, eq, Or.inr ⟨rfl, ⟨t, rfl⟩, hR2⟩⟩ (fun g k post n hK2 hnx => ?_)
      obtain ⟨t1, e1⟩ := e18 g hK2
      unfold V_X12_resume_33
      refine ⟨fun c => absurd c (by decide), fun c => absurd c (by decide), fun c => absurd c (by decide), fun c => absurd c (by decide), fun _ => ?_, fun c => absurd c (by decide), fun c1 c2 c3 c4 c6 c32 => absurd rfl c6⟩
      rw [t1, nI_clamp (by omega), e1]
      exact ⟨vp_in_nI (by omega) (by decide), fun _ => ⟨fun _ => hnx, fun c => absurd rfl c⟩, fun c => absurd c (by decide)⟩
    | nil =>
      have ep : p1 = p2 := hR
      subst ep
      have l4 : ((gv (vnum (q : Int)) :: gv (vnum ((2 * ncal K : Nat) : Int)) :: gv (vnum ((cvl K).length : Int)) :: gv t :: cat K)).length ≤ 1488 := l4
      refine ⟨((1, q, v), K, sv, rc, hp, out, inp, cn), ⟨hW, CtK_pop hCt (Nat.le_refl _), hv, sc, Cn_mono K q _ 1 sc (by omega) hK⟩, ?_, ?_, ?_⟩
      · show _ + K.length + 2 < _ + (K.length + 1) + 2
        omega
      · intro G post n i2 hG hn2 hi2 kk
        obtain ⟨φ, b, lo, hi, hG⟩ := hG
        obtain ⟨n, rfl⟩ : ∃ n', n = n' + 12 := ⟨n - 12, by omega⟩
        refine i_chain 12 p p1 n i2 G hX h7 hG (by omega) (fun G1 m i3 g1 b1 b2 => ?_)
        obtain ⟨m, rfl⟩ : ∃ n', m = n' + 1 := ⟨m - 1, by omega⟩
        refine i_endc (n := m) (LK1 := cat K) hX g1 (by omega) rfl (by omega) c13 l4 (fun G4 g4 => kk G4 m (i3 + 1) ⟨φ, b, lo, hi, ?_⟩ (by omega) (by omega))
        rw [eq]; exact g4
      · intro g k post n hR hn2 kk
        obtain ⟨hM, hK2, h16, h17⟩ := hR
        refine r_run1 hK2.2.2.2.2.2 h17 hK2.1 (by omega) (r_res hK2 (by omega) hin ?_)
        obtain ⟨t1, e1⟩ := e18 g hK2
        unfold V_X12_resume_33
        refine ⟨fun c => absurd c (by decide), fun c => absurd c (by decide), fun c => absurd c (by decide), fun c => absurd c (by decide), fun _ => ?_, fun c => absurd c (by decide), fun c1 c2 c3 c4 c6 c32 => absurd rfl c6⟩
        rw [t1, nI_clamp (by omega), e1]
        refine ⟨vp_in_nI (by omega) (by decide), fun _ => ⟨fun c => absurd c (by decide), fun _ => ?_⟩, fun c => absurd c (by decide)⟩
        exact r_pop hM hK2 (by omega) (by decide) (fun g3 s1 s2 s3 s4 s5 => kk g3 k ⟨s1, s2, s3.trans h16, s4⟩)
end RU
