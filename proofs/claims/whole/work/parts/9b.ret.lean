-- ===== a value comes back: steps that leave the world as it is =====
section RT
variable {x : Cx} {G0 : SG} {N : Nat} {cv cf : Int32} {sv : Nat → Option Va} {rc : Nat → Va × Va} {hp : Nat → Option Ob} {out : List Nat} {inp : List Int} {cn : Nat → Int32} {φ : Nat → Nat} {b lo hi : Nat} {G : SG}
theorem Cn_d {Kf : List Fr} {p d : Nat} {sc : List (List Nat)} (h : Cn x hp Kf p d sc) : d ≤ 13 := by
  cases Kf with
  | nil => exact h.2.1
  | cons f K =>
    obtain ⟨op, i, rest, st, e, q, vs⟩ := f
    obtain ⟨-, -, -, -, D, p1, h5, h6, -⟩ := h
    omega
theorem CWd.rng (hX : XC x G0 N) (hu : usum hp 168 ≤ x.z) (h : CWd x G0 φ b lo hi sv rc hp out inp cn G) : Rng φ hp := by
  intro s o ho
  obtain ⟨-, -, a3, -, -, a6, -⟩ := h
  obtain ⟨-, h1, h2, -⟩ := a3.1 s o ho
  have hz := hX.1.2.1
  rcases a6 with e | e <;> omega
theorem cw_nil {K : Nat → Nat → Prop} {C : Nat → Prop} {v : Va} (hv : VV K C hp v) (hR : Rng φ hp) : cw φ v = 1 ↔ v = vnil := by
  obtain ⟨r1, r2⟩ := VV.rng hv hR
  have hk := va_kd_lt v
  have h1 : cw φ v = 1 ↔ vkd v = 1 ∧ hld φ v = 0 := by
    rw [← wd_nil]
    exact wd_inj (by omega) (by decide) r1 r2 (by decide) (by decide)
  rw [h1]
  refine ⟨fun h => ?_, fun h => by rw [h]; exact ⟨rfl, rfl⟩⟩
  rcases v with _ | v | v | v | v | v | v
  · rfl
  · exact absurd h.1 (show ¬ 2 = 1 by decide)
  · exact absurd h.1 (show ¬ 3 = 1 by decide)
  · exact absurd h.1 (show ¬ 4 = 1 by decide)
  · exact absurd h.1 (show ¬ 4 = 1 by decide)
  · exact absurd h.1 (show ¬ 5 = 1 by decide)
  · exact absurd h.1 (show ¬ 6 = 1 by decide)
theorem enc_nil_iff {v : Va} (hv : vok v) : enc v = 1048576 ↔ v = vnil := by
  refine ⟨fun h => ?_, fun h => by rw [h]; rfl⟩
  rcases enc_inj hv (w := vnil) trivial h with h | ⟨i, c, d, -, h⟩
  · exact h
  · cases h
/-- what is known when a value comes back to a frame -/
def RtF (x : Cx) (hp : Nat → Option Ob) (K : List Fr) (op i st e q p D p1 : Nat) (sc : List (List Nat)) (rest : List Nat) (vs : List Va) : Prop := (∀ v ∈ vs, VV x.K x.C hp v) ∧ LsC x rest ∧ st ≤ 1 ∧ q < x.tp ∧ 1 ≤ D ∧ D + sc.length ≤ 13 ∧ Chn x 12 p p1 ∧ p1 < x.tp ∧ FrK x D p1 sc i rest st q vs op ∧ (op = 33 → EnvR x.r0 x.C hp e sc ∧ ∃ sc1, Cn x hp K q 2 sc1) ∧ (op ≠ 33 → Cn x hp K q (D + 1) sc)
theorem rtF {K : List Fr} {op i st e q p : Nat} {rest : List Nat} {vs : List Va} {v : Va} (h : PA x ((1, p, v), (op, i, rest, st, e, q, vs) :: K, sv, rc, hp, out, inp, cn)) : PW x sv rc hp out inp ∧ CtK 1 ((op, i, rest, st, e, q, vs) :: K) cn ∧ VV x.K x.C hp v ∧ (∃ sc0, Cn x hp ((op, i, rest, st, e, q, vs) :: K) p 1 sc0) ∧ ∃ D p1 sc, RtF x hp K op i st e q p D p1 sc rest vs := by
  obtain ⟨hW, hCt, hv, sc, hK⟩ := h
  obtain ⟨h1, h2, h3, h4, D, p1, h5, h6, h7, h8⟩ := id hK
  exact ⟨hW, hCt, hv, ⟨sc, hK⟩, D, p1, sc, h1, h2, h3, h4, h5, h6, h7, h8⟩
theorem FrK_op {D p i st q : Nat} {sc : List (List Nat)} {rest : List Nat} {vs : List Va} : ∀ (op : Nat), FrK x D p sc i rest st q vs op → op ≤ 33
  | 0, _ => by omega
  | 1, _ => by omega
  | 2, _ => by omega
  | 3, _ => by omega
  | 4, _ => by omega
  | 5, _ => by omega
  | 6, _ => by omega
  | 7, _ => by omega
  | 8, _ => by omega
  | op + 9, h => by rcases h with ⟨h, -⟩ | ⟨h, -⟩ <;> omega
theorem CtK_pop {m m1 : Nat} {f : Fr} {K : List Fr} (h : CtK m (f :: K) cn) (hm : m1 ≤ m) : CtK m1 K cn := by
  obtain ⟨op, i, rest, st, e, q, vs⟩ := f
  obtain ⟨st, dp, c1, c2, c3, c4, c5, c6⟩ := h
  have c5 : (vs ++ allv K).length + m ≤ st := c5
  have c6 : (if op = 33 then 1 else 0) + ncal K ≤ dp := c6
  rw [List.length_append] at c5
  exact ⟨st, dp, c1, c2, c3, c4, by omega, by omega⟩
theorem CtK_fr {m m1 : Nat} {op i i1 st st1 e e1 q q1 : Nat} {rest rest1 : List Nat} {vs vs1 : List Va} {K : List Fr} (h : CtK m ((op, i, rest, st, e, q, vs) :: K) cn) (hl : vs1.length + m1 ≤ vs.length + m) : CtK m1 ((op, i1, rest1, st1, e1, q1, vs1) :: K) cn := by
  obtain ⟨st, dp, c1, c2, c3, c4, c5, c6⟩ := h
  have c5 : (vs ++ allv K).length + m ≤ st := c5
  refine ⟨st, dp, c1, c2, c3, c4, ?_, c6⟩
  show (vs1 ++ allv K).length + m1 ≤ st
  rw [List.length_append] at c5 ⊢
  omega
/-- one of two ways, or none -/
theorem r_ch30 {g : St} {k : StL} {i st e0 q : Nat} {rest w : List Nat} {vs : List Va} {K : List Fr} {post : St → StL → Prop} (hx : XOK x) (hC : ∀ i, x.C i → rc i = x.r0 i) (hM : MW x cv cf sv rc hp out inp cn g k) (hK : MK ((2, i, rest, st, e0, q, vs) :: K) g) (hl : K.length < 1002) (hw : ∀ y ∈ w, x.C y)
    (k1 : ∀ y r, w = y :: r → ∀ g1, MW x cv cf sv rc hp out inp cn g1 k → MK K g1 → g1 0 14 = enc (x.r0 y).1 → g1 0 15 = nI (fe K) → g1 0 17 = 0 → post g1 k)
    (k0 : w = [] → ∀ g1, MW x cv cf sv rc hp out inp cn g1 k → MK K g1 → g1 0 16 = enc vnil → g1 0 17 = 1 → post g1 k) : V_X12_choose_30 post (enc (hdl w)) g k := by
  have t1 := top1 hK.1
  have hrn := hx.2.2.2.2.2.1
  have e19 : g 19 K.length = nI (fe K) := hK.2.2.2.1.2.2.2.2.1
  unfold V_X12_choose_30
  rw [t1, nI_clamp (by omega), e19]
  refine ⟨vp_in_nI hl (by decide), eqI (r_pop hM hK hl (by decide) (fun g1 m1 m2 m3 m4 m5 => ?_))⟩
  cases w with
  | nil => exact ⟨fun c => absurd rfl c, fun _ => k0 rfl g1 m1 m2 m3 m4⟩
  | cons y r =>
    have hyC := hw y (by simp)
    have hyr := (hx.2.2.2.1 y hyC).1
    refine ⟨fun _ => r_car1 m1.2.2.2.1 (i := y) (c := 0) hyr (by omega) (by decide) (eqI (eqI (eqI ?_))), fun c => absurd c (rd_nnil (by omega))⟩
    rw [hC y hyC]
    obtain ⟨b1, b2, b3, b4, b5, b6⟩ := m2
    exact k1 y r rfl _ (MW_fr m1 (fun c hc _ => by rw [usZ hc, usZ hc, usZ hc]) (fun j hj => by rw [us0, if_neg (by omega), us0, if_neg (by omega), us0, if_neg (by omega)])) ⟨b1, b2, b3, FrM_fr K (fun c c1 c2 t ht => by rw [usZ (by omega), usZ (by omega), usZ (by omega)]) b4, VlM_fr (fun t ht => rfl) b5, b6⟩ rfl rfl rfl
theorem r_cho {g : St} {k : StL} {i st e0 q z : Nat} {e : List Nat} {v : Va} {vs : List Va} {K : List Fr} {post : St → StL → Prop} (hx : XOK x) (hC : ∀ i, x.C i → rc i = x.r0 i) (hM : MW x cv cf sv rc hp out inp cn g k) (hK : MK ((2, i, z :: e, st, e0, q, vs) :: K) g) (h16 : g 0 16 = enc v) (hv : vok v) (hl : K.length < 1002) (hr : LsC x (z :: e))
    (k1 : ∀ y r, (if v = vnil then e else z :: e) = y :: r → ∀ g1, MW x cv cf sv rc hp out inp cn g1 k → MK K g1 → g1 0 14 = enc (x.r0 y).1 → g1 0 15 = nI (fe K) → g1 0 17 = 0 → post g1 k)
    (k0 : (if v = vnil then e else z :: e) = [] → ∀ g1, MW x cv cf sv rc hp out inp cn g1 k → MK K g1 → g1 0 16 = enc vnil → g1 0 17 = 1 → post g1 k) : V_X12_choose g k post := by
  have t1 := top1 hK.1
  have hrn := hx.2.2.2.2.2.1
  have e17 : g 17 K.length = enc (vrd z 0) := hK.2.2.2.1.2.2.1
  have hzC := hr.2 z (by simp)
  have hzr := (hx.2.2.2.1 z hzC).1
  unfold V_X12_choose
  rw [t1, nI_clamp (by omega), e17, h16]
  refine ⟨vp_in_nI hl (by decide), eqI ⟨fun c => ?_, fun c => ?_⟩⟩
  · have en := (enc_nil_iff hv).mp c
    rw [if_pos en] at k1 k0
    refine r_cdr1 hM.2.2.2.1 hzr (by omega) (by decide) ?_
    rw [hC z hzC, enc_hdl hr.1.2]
    exact r_ch30 hx hC hM hK hl (fun y hy => hr.2 y (by simp [hy])) k1 k0
  · have en : ¬ v = vnil := fun e => c ((enc_nil_iff hv).mpr e)
    rw [if_neg en] at k1 k0
    exact r_ch30 (w := z :: e) hx hC hM hK hl hr.2 k1 k0
theorem s_if {K : List Fr} {i st e q p : Nat} {rest : List Nat} {vs : List Va} {v : Va} (hX : XC x G0 N) (h : PA x ((1, p, v), (2, i, rest, st, e, q, vs) :: K, sv, rc, hp, out, inp, cn)) : Stq x G0 N cv cf ((1, p, v), (2, i, rest, st, e, q, vs) :: K, sv, rc, hp, out, inp, cn) := by
  obtain ⟨hW, hCt, hv, ⟨sc0, hK0⟩, D, p1, sc, h1, h2, h3, h4, h5, h6, h7, h8, h9, -, h11⟩ := rtF h
  obtain ⟨rfl, z, w, p2, rfl, hw1, c1, c2, hE, c3, c4, hB⟩ := h9
  have hK := h11 (by decide)
  obtain ⟨st0, e0, hst0, ecl, hn⟩ := CtK_lim hCt
  obtain ⟨l1, l2, l3, l4⟩ := Cn_LB hK0 (Nat.le_refl _) hn
  have htp := hX.1.2.2.2.2.2.2
  have hrn := hX.1.2.2.2.2.2.1
  have hlt := AtE_lt (rc := x.r0) (nam := x.nam) (K := x.K) (C := x.C) (c := x.c) (ent := x.ent) D sc
  have q1 := hlt _ _ _ hE
  have q2 := (AtB_le hlt w (p2 + 2) q hB).1
  have hD := Cn_d hK
  have hCr := hW.2.2.1
  have l1 : K.length + 1 ≤ 372 := l1
  have hzC := h2.2 z (by simp)
  have hzx := hX.1.2.2.2.1 z hzC
  have askOK : ∀ y, x.C y → vok (x.r0 y).1 ∧ ∀ s, (x.r0 y).1 = vsym s → s < x.sy := fun y hy => ⟨by rw [← hCr y hy]; exact (hW.2.2.2.1 y (hX.1.2.2.2.1 y hy).1).1, (hX.1.2.2.2.1 y hy).2.1⟩
  have muA : ∀ p' v', mu ((0, p', v'), K, sv, rc, hp, out, inp, cn) < mu ((1, p, v), (2, i, z :: w, st, e, q, []) :: K, sv, rc, hp, out, inp, cn) := fun p' v' => by
    show _ + K.length + 1 < _ + (K.length + 1) + 2
    omega
  by_cases en : v = vnil
  · cases w with
    | nil =>
      obtain ⟨d1, d2, d3⟩ := hB
      refine ⟨((1, q, vnil), K, sv, rc, hp, out, inp, cn), ⟨hW, CtK_pop hCt (Nat.le_refl _), trivial, sc, Cn_mono K q _ 1 sc (by omega) hK⟩, ?_, ?_, ?_⟩
      · show _ + K.length + 2 < _ + (K.length + 1) + 2
        omega
      · intro G post n i2 hG hn2 hi2 kk
        obtain ⟨φ, b, lo, hi, hG⟩ := hG
        obtain ⟨n, rfl⟩ : ∃ n', n = n' + 12 := ⟨n - 12, by omega⟩
        refine i_chain 12 p p1 n i2 G hX h7 hG (by omega) (fun G1 m i3 g1 b1 b2 => ?_)
        obtain ⟨m, rfl⟩ : ∃ n', m = n' + 2 := ⟨m - 2, by omega⟩
        refine i_jin (n := m + 1) (y := gv v) (LV1 := (cvl K).map gv) hX g1 (by omega) rfl (by omega) c1 c2 (by rw [List.length_map]; have : (cvl K).length ≤ 1488 := l2; omega) (fun _ G2 g2 => ?_) (fun c => absurd ((cw_nil hv (CWd.rng hX hW.2.2.2.2.2.2.1 g1.1)).mpr en) c)
        exact i_word (n := m) (y := gv vnil) hX g2 (by omega) (by omega) d1 (d2.trans wd_nil.symm) (by rw [List.length_map]; have : (cvl K).length ≤ 1488 := l2; omega) (fun G3 g3 => kk G3 m (i3 + 1 + 1) ⟨φ, b, lo, hi, by rw [d3]; exact g3⟩ (by omega) (by omega))
      · intro g k post n hR hn2 kk
        obtain ⟨hM, hK2, h16, h17⟩ := hR
        refine r_run1 hK2.2.2.2.2.2 h17 hK2.1 (by omega) (r_res hK2 (by omega) (fun y hy => by have := (hX.1.2.2.2.1 y (h2.2 y hy)).1; omega) ?_)
        unfold V_X12_resume_33
        refine ⟨fun _ => ?_, fun c => absurd c (by decide), fun c => absurd c (by decide), fun c => absurd c (by decide), fun c => absurd c (by decide), fun c => absurd c (by decide), fun c => absurd rfl c⟩
        refine r_cho hX.1 hCr hM hK2 h16 hv.ok (by omega) h2 (fun y r c => ?_) (fun _ g1 m1 m2 m3 m4 => kk g1 k ⟨m1, m2, m3, m4⟩)
        rw [if_pos en] at c; cases c
    | cons y r =>
      have er : r = [] := by
        cases r with
        | nil => rfl
        | cons z r => have hw1 : r.length + 2 ≤ 1 := hw1; omega
      subst er
      obtain ⟨r1, hE2, hR1⟩ := hB
      have er1 : r1 = q := hR1
      subst er1
      have hyC := h2.2 y (by simp)
      refine ⟨((0, p2 + 2, (x.r0 y).1), K, sv, rc, hp, out, inp, cn), ⟨hW, CtK_pop hCt (by omega), (askOK y hyC).1, (askOK y hyC).2, D, sc, r1, hE2, h4, h6, Cn_mono K r1 _ D sc (by omega) hK⟩, muA _ _, ?_, ?_⟩
      · intro G post n i2 hG hn2 hi2 kk
        obtain ⟨φ, b, lo, hi, hG⟩ := hG
        obtain ⟨n, rfl⟩ : ∃ n', n = n' + 12 := ⟨n - 12, by omega⟩
        refine i_chain 12 p p1 n i2 G hX h7 hG (by omega) (fun G1 m i3 g1 b1 b2 => ?_)
        obtain ⟨m, rfl⟩ : ∃ n', m = n' + 1 := ⟨m - 1, by omega⟩
        exact i_jin (n := m) (y := gv v) (LV1 := (cvl K).map gv) hX g1 (by omega) rfl (by omega) c1 c2 (by rw [List.length_map]; have : (cvl K).length ≤ 1488 := l2; omega) (fun _ G2 g2 => kk G2 m (i3 + 1) ⟨φ, b, lo, hi, g2⟩ (by omega) (by omega)) (fun c => absurd ((cw_nil hv (CWd.rng hX hW.2.2.2.2.2.2.1 g1.1)).mpr en) c)
      · intro g k post n hR hn2 kk
        obtain ⟨hM, hK2, h16, h17⟩ := hR
        refine r_run1 hK2.2.2.2.2.2 h17 hK2.1 (by omega) (r_res hK2 (by omega) (fun y hy => by have := (hX.1.2.2.2.1 y (h2.2 y hy)).1; omega) ?_)
        unfold V_X12_resume_33
        refine ⟨fun _ => ?_, fun c => absurd c (by decide), fun c => absurd c (by decide), fun c => absurd c (by decide), fun c => absurd c (by decide), fun c => absurd c (by decide), fun c => absurd rfl c⟩
        refine r_cho hX.1 hCr hM hK2 h16 hv.ok (by omega) h2 (fun y2 r2 c g1 m1 m2 m3 m4 m5 => ?_) (fun c => ?_)
        · rw [if_pos en] at c; cases c
          exact kk g1 k ⟨m1, m2, m3, m4, m5⟩
        · rw [if_pos en] at c; cases c
  · refine ⟨((0, p1 + 2, (x.r0 z).1), K, sv, rc, hp, out, inp, cn), ⟨hW, CtK_pop hCt (by omega), (askOK z hzC).1, (askOK z hzC).2, D, sc, p2, hE, by omega, h6, Cn_jmp K p2 q D sc (by omega) c3 c4 (by omega) (by omega) hK⟩, muA _ _, ?_, ?_⟩
    · intro G post n i2 hG hn2 hi2 kk
      obtain ⟨φ, b, lo, hi, hG⟩ := hG
      obtain ⟨n, rfl⟩ : ∃ n', n = n' + 12 := ⟨n - 12, by omega⟩
      refine i_chain 12 p p1 n i2 G hX h7 hG (by omega) (fun G1 m i3 g1 b1 b2 => ?_)
      obtain ⟨m, rfl⟩ : ∃ n', m = n' + 1 := ⟨m - 1, by omega⟩
      exact i_jin (n := m) (y := gv v) (LV1 := (cvl K).map gv) hX g1 (by omega) rfl (by omega) c1 c2 (by rw [List.length_map]; have : (cvl K).length ≤ 1488 := l2; omega) (fun c => absurd ((cw_nil hv (CWd.rng hX hW.2.2.2.2.2.2.1 g1.1)).mp c) en) (fun _ G2 g2 => kk G2 m (i3 + 1) ⟨φ, b, lo, hi, g2⟩ (by omega) (by omega))
    · intro g k post n hR hn2 kk
      obtain ⟨hM, hK2, h16, h17⟩ := hR
      refine r_run1 hK2.2.2.2.2.2 h17 hK2.1 (by omega) (r_res hK2 (by omega) (fun y hy => by have := (hX.1.2.2.2.1 y (h2.2 y hy)).1; omega) ?_)
      unfold V_X12_resume_33
      refine ⟨fun _ => ?_, fun c => absurd c (by decide), fun c => absurd c (by decide), fun c => absurd c (by decide), fun c => absurd c (by decide), fun c => absurd c (by decide), fun c => absurd rfl c⟩
      refine r_cho hX.1 hCr hM hK2 h16 hv.ok (by omega) h2 (fun y2 r2 c g1 m1 m2 m3 m4 m5 => ?_) (fun c => ?_)
      · rw [if_neg en] at c; cases c
        exact kk g1 k ⟨m1, m2, m3, m4, m5⟩
      · rw [if_neg en] at c; cases c
end RT
