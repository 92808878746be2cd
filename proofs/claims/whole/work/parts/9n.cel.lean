-- ===== operators on cells and vectors that leave the world as it is =====
/-- the two values of a cell -/
def cel (rc : Nat → Va × Va) (hp : Nat → Option Ob) (a : Va) (p : Va × Va) : Prop := (∃ i c, a = vrd i c ∧ rc i = p) ∨ ∃ s, a = vcel s ∧ hp s = some (ocel p.1 p.2)
theorem cel_of {K : Nat → Nat → Prop} {C : Nat → Prop} {rc : Nat → Va × Va} {hp : Nat → Option Ob} {a : Va} (hv : VV K C hp a) (hk : vkd a = 4) : ∃ p, cel rc hp a p := by
  rcases a with _ | v | v | ⟨v, v2⟩ | v | v | v
  · exact absurd hk (show ¬ 1 = 4 by decide)
  · exact absurd hk (show ¬ 2 = 4 by decide)
  · exact absurd hk (show ¬ 3 = 4 by decide)
  · exact ⟨rc v, Or.inl ⟨v, v2, rfl, rfl⟩⟩
  · obtain ⟨-, p, d, h⟩ := hv
    exact ⟨(p, d), Or.inr ⟨v, rfl, h⟩⟩
  · exact absurd hk (show ¬ 5 = 4 by decide)
  · exact absurd hk (show ¬ 6 = 4 by decide)
section CV
variable {x : Cx} {G0 G : SG} {N : Nat} {φ : Nat → Nat} {b lo hi : Nat} {sv : Nat → Option Va} {rc : Nat → Va × Va} {hp : Nat → Option Ob} {out : List Nat} {inp : List Int} {cn : Nat → Int32} {LV LC LK : List Gw} {p n i : Nat} {post : Int32 → SG → Prop} {cv cf : Int32}
theorem cel_VV {a : Va} {pr : Va × Va} (hW : PW x sv rc hp out inp) (hv : VV x.K x.C hp a) (hc : cel rc hp a pr) : VV x.K x.C hp pr.1 ∧ VV x.K x.C hp pr.2 := by
  rcases hc with ⟨i, c, rfl, rfl⟩ | ⟨s, rfl, ho⟩
  · obtain ⟨h1, h2, -⟩ := hv
    exact hW.2.1 i c h1 h2
  · exact (hW.2.2.2.2.2.1 s _ ho).2
theorem cel_cls {a : Va} {pr : Va × Va} (hX : XC x G0 N) (hu : usum hp 168 ≤ x.z) (h : CG x G0 φ b lo hi sv rc hp out inp cn LV LC LK p G) (hv : VV x.K x.C hp a) (hc : cel rc hp a pr) : ∃ ad : Nat, hld φ a = (ad : Int) ∧ ad + 1 < N ∧ G 2 1 ad = cw φ pr.1 ∧ G 2 1 (ad + 1) = cw φ pr.2 := by
  have hN := hX.2.1
  have hz := hX.1.2.1
  rcases hc with ⟨i, c, rfl, rfl⟩ | ⟨s, rfl, ho⟩
  · obtain ⟨h1, h2, h3, h4⟩ := hv
    obtain ⟨w1, w2⟩ := h.1.2.1.2.2.2.2.2.2.2.2.2.2.2.2.1 i c (Or.inl h1)
    exact ⟨2 * c, rfl, by omega, w1, w2⟩
  · obtain ⟨-, a2, a3, a4⟩ := h.1.2.2.1.1 s _ ho
    have a3 : φ s + 2 ≤ b + usum hp 168 := a3
    have hb := h.1.2.2.2.2.2.1
    exact ⟨φ s, rfl, by rcases hb with e | e <;> omega, a4 0 (by show 0 < 2; decide), a4 1 (by show 1 < 2; decide)⟩
theorem r_carC {g : St} {k : StL} {a : Va} {pr : Va × Va} {R : Int32 → St → StL → Prop} (hx : XOK x) (hM : MW x cv cf sv rc hp out inp cn g k) (hv : VV x.K x.C hp a) (hc : cel rc hp a pr) (kk : R (enc pr.1) g k) : V_X12_car (enc a) g k R := by
  have hrn := hx.2.2.2.2.2.1
  rcases hc with ⟨i, c, rfl, rfl⟩ | ⟨s, rfl, ho⟩
  · exact r_car1 hM.2.2.2.1 (hx.2.2.2.2.1 i c hv.1).1 (by omega) hv.2.2.2 kk
  · have hs : s < 168 := hv.1
    have f0 : g 10 (8 * s) = enc pr.1 := ((hM.2.2.2.2.1 s hs).2 _ ho).2.2 0 (by show 0 < 2; decide)
    have hl : (nI (vld (vcel s))) = nI (2000 + s) := rfl
    unfold V_X12_car
    refine r_load hv.ok ⟨fun _ => r_load hv.ok ?_, fun c => absurd (nI_le (a := 2000) (b := 2000 + s) (by omega) (by omega)) c⟩
    rw [hl, show (2000 : Int32) = nI 2000 from rfl, nI_sub (by omega), show 2000 + s - 2000 = s by omega, show (8 : Int32) = nI 8 from rfl, nI_mul, nI_clamp (by omega), f0]
    exact ⟨vp_in_nI (by omega) (by decide), kk⟩
theorem r_cdrC {g : St} {k : StL} {a : Va} {pr : Va × Va} {R : Int32 → St → StL → Prop} (hx : XOK x) (hM : MW x cv cf sv rc hp out inp cn g k) (hv : VV x.K x.C hp a) (hc : cel rc hp a pr) (kk : R (enc pr.2) g k) : V_X12_cdr (enc a) g k R := by
  have hrn := hx.2.2.2.2.2.1
  rcases hc with ⟨i, c, rfl, rfl⟩ | ⟨s, rfl, ho⟩
  · exact r_cdr1 hM.2.2.2.1 (hx.2.2.2.2.1 i c hv.1).1 (by omega) hv.2.2.2 kk
  · have hs : s < 168 := hv.1
    have f0 : g 10 (8 * s + 1) = enc pr.2 := ((hM.2.2.2.2.1 s hs).2 _ ho).2.2 1 (by show 1 < 2; decide)
    have hl : (nI (vld (vcel s))) = nI (2000 + s) := rfl
    unfold V_X12_cdr
    refine r_load hv.ok ⟨fun _ => r_load hv.ok ?_, fun c => absurd (nI_le (a := 2000) (b := 2000 + s) (by omega) (by omega)) c⟩
    rw [hl, show (2000 : Int32) = nI 2000 from rfl, nI_sub (by omega), show 2000 + s - 2000 = s by omega, show (8 : Int32) = nI 8 from rfl, nI_mul, nI_1, nI_clamp (by omega), f0]
    exact ⟨vp_in_nI (by omega) (by decide), kk⟩
/-- words are the same where the values are -/
theorem same_cw {a c : Va} (hX : XC x G0 N) (hu : usum hp 168 ≤ x.z) (h : CG x G0 φ b lo hi sv rc hp out inp cn LV LC LK p G) (ha : VV x.K x.C hp a) (hc : VV x.K x.C hp c) : cw φ a = cw φ c ↔ a = c := by
  refine ⟨fun e => ?_, fun e => by rw [e]⟩
  have hR := CWd.rng hX hu h.1
  obtain ⟨r1, r2⟩ := VV.rng ha hR
  obtain ⟨s1, s2⟩ := VV.rng hc hR
  have k1 := va_kd_lt a
  have k2 := va_kd_lt c
  obtain ⟨ek, eh⟩ := (wd_inj (by omega) (by omega) r1 r2 s1 s2).mp e
  obtain ⟨q1, q2, q3, q4, q5, q6, q7, q8, q9, q10, q11, q12, q13, q14⟩ := h.1.2.1
  obtain ⟨hH1, hH2⟩ := h.1.2.2.1
  obtain ⟨hb1, -, -⟩ := CG_N hX h
  have inj : ∀ s t o o1, hp s = some o → hp t = some o1 → φ s = φ t → s = t := fun s t o o1 e1 e2 e3 => by
    rcases Nat.lt_or_ge s t with z | z
    · have := hH2 s o t o1 e1 e2 (by omega); have := olen_1 o; have := olen_1 o1; omega
    · rcases Nat.lt_or_ge t s with z2 | z2
      · have := hH2 s o t o1 e1 e2 (by omega); have := olen_1 o; have := olen_1 o1; omega
      · omega
  rcases a with _ | a | a | ⟨a, a2⟩ | a | a | a <;> rcases c with _ | c | c | ⟨c, c2⟩ | c | c | c <;> first | rfl | (simp [vkd] at ek; done) | skip
  · have eh : a = c := eh; rw [eh]
  · have eh : (a : Int) = (c : Int) := eh
    have : a = c := by omega
    rw [this]
  · have eh : ((2 * a2 : Nat) : Int) = ((2 * c2 : Nat) : Int) := eh
    have e2 : a2 = c2 := by omega
    subst e2
    have := q11 a c a2 ha.1 hc.1
    rw [this]
  · have eh : ((2 * a2 : Nat) : Int) = ((φ c : Nat) : Int) := eh
    have h3 := ha.2.2.2
    have h9 := (q9 a a2 ha.1).2
    obtain ⟨-, p9, d9, ho⟩ := hc
    obtain ⟨-, z, -⟩ := hH1 c _ ho
    have := hX.2.2.2
    omega
  · have eh : ((φ a : Nat) : Int) = ((2 * c2 : Nat) : Int) := eh
    have h3 := hc.2.2.2
    have h9 := (q9 c c2 hc.1).2
    obtain ⟨-, p9, d9, ho⟩ := ha
    obtain ⟨-, z, -⟩ := hH1 a _ ho
    have := hX.2.2.2
    omega
  · have eh : ((φ a : Nat) : Int) = ((φ c : Nat) : Int) := eh
    obtain ⟨-, p9, d9, ho⟩ := ha
    obtain ⟨-, p8, d8, ho2⟩ := hc
    rw [inj a c _ _ ho ho2 (by omega)]
  · have eh : ((φ a : Nat) : Int) = ((φ c : Nat) : Int) := eh
    obtain ⟨-, p9, ho⟩ := ha
    obtain ⟨-, p8, ho2⟩ := hc
    rw [inj a c _ _ ho ho2 (by omega)]
  · have eh : ((φ a : Nat) : Int) = ((φ c : Nat) : Int) := eh
    obtain ⟨-, p9, d9, ho⟩ := ha
    obtain ⟨-, p8, d8, ho2⟩ := hc
    rw [inj a c _ _ ho ho2 (by omega)]
/-- kept cells are kept once -/
def Kfun (x : Cx) : Prop := (∀ i c d, x.K i c → x.K i d → c = d)
theorem same_enc {a c : Va} (hk : Kfun x) (ha : VV x.K x.C hp a) (hc : VV x.K x.C hp c) : enc a = enc c ↔ a = c := by
  refine ⟨fun e => ?_, fun e => by rw [e]⟩
  rcases enc_inj ha.ok hc.ok e with h | ⟨i, c1, d1, rfl, rfl⟩
  · exact h
  · rw [hk i c1 d1 ha.1 hc.1]
end CV
section CW
variable {x : Cx} {G0 : SG} {N : Nat} {cv cf : Int32} {sv : Nat → Option Va} {rc : Nat → Va × Va} {hp : Nat → Option Ob} {out : List Nat} {inp : List Int} {cn : Nat → Int32}
theorem s_9 {K : List Fr} {i st e q p D p1 : Nat} {sc : List (List Nat)} {vs : List Va} {v : Va} (hX : XC x G0 N) (hF : OpF x sv rc hp out inp cn K 9 i st e q p D p1 sc (v :: vs)) : Stq x G0 N cv cf ((1, p, v), (9, i, [], st, e, q, vs) :: K, sv, rc, hp, out, inp, cn) := by
  have evs := one_part hF rfl
  subst evs
  have hW := hF.1
  have hvv : VV x.K x.C hp v := hF.2.2.2.1 v (by simp)
  have hu := hF.1.2.2.2.2.2.2.1
  have l2 := hF.2.2.2.2.2.2.2.2.2.2.2.2.2.2.2.2.2.1
  have ll : ((cvl K).map gv).length < 1550 := by rw [List.length_map]; omega
  have hbl : (allv K).length < 1100 := by
    have := hF.2.2.2.2.2.2.2.2.2.2.2.2.2.2.2.2.2.2.2.2.1
    have : (allv K).length + 1 ≤ 1000 := this
    omega
  have hk7 := va_kd_lt v
  have pre : ∀ (g : St) (k : StL) (n : Nat) (R : Int32 → St → StL → Prop), VlM g ([v] ++ allv K) → (v = vnil → R 1048576 g k) → (¬ v = vnil → V_X12_lists_188 R n 8 (nI (allv K).length) (enc v) (nI (vkd v)) g k) → RefO n 9 (allv K).length g k R := fun g k n R hV k0 k1 => by
    refine ⟨fun _ => ?_, fun c => absurd c (by decide), fun c => absurd c (by decide)⟩
    unfold V_X12_lists
    rw [nI_clamp (by omega), vl_1 (l := allv K) hV]
    refine ⟨vp_in_nI (by omega) (by decide), eqI (r_sort hvv.ok ⟨fun _ => ⟨fun c => absurd c (by decide), fun _ => ⟨fun _ => ⟨fun c => absurd c (by decide), fun _ => ⟨fun c => k1 (fun e => c (by rw [e]; rfl)), fun c => k0 ((enc_nil_iff hvv.ok).mp c)⟩⟩, fun c => absurd c (by decide)⟩⟩, fun c => absurd c (by decide)⟩)⟩
  by_cases h4 : vkd v = 4
  · obtain ⟨pr, hc⟩ := cel_of (rc := rc) hvv h4
    have hnn : ¬ v = vnil := fun e => by rw [e] at h4; exact absurd h4 (show ¬ 1 = 4 by decide)
    refine s_opV (w := pr.1) hX hF (cel_VV hW hvv hc).1 (fun φ b lo hi G n p2 R hG hn kk => ?_) (fun g k n R hM hV h13 hn kk => pre g k n R hV (fun e => absurd e hnn) (fun _ => ?_))
    · refine c_ans1 (y := gv v) hG.2.1 ll ?_
      unfold AnsB
      refine ⟨by decide, vp_in_nI (n := 9) (by decide) (by decide), eqI ⟨fun _ => ?_, fun c => absurd c (by decide), fun c => absurd c (by decide), fun c => absurd c (by decide), fun c => absurd c (by decide), fun c => absurd c (by decide), fun c => absurd c (by decide), fun c => absurd c (by decide), fun c => absurd c (by decide), fun c => absurd c (by decide), fun c => absurd c (by decide), fun c => absurd c (by decide), fun c => absurd c (by decide), fun c => absurd c (by decide), fun c10 c11 c12 c13 c14 c15 c16 c17 c18 c19 c20 c21 c22 c23 => absurd rfl c10⟩⟩
      obtain ⟨ad, e1, e2, e3, e4⟩ := cel_cls hX hu hG hvv hc
      unfold V_X7_partOf
      refine c_tag hvv (CWd.rng hX hu hG.1) ⟨fun c => absurd ((nI_eq (b := 1) (by omega) (by decide)).mp c) (by omega), fun _ => c_held hvv (CWd.rng hX hu hG.1) ?_, fun _ c => absurd (by rw [h4]; rfl) c⟩
      rw [e1, iI_nat, show (0 : Int32) = nI 0 from rfl, nI_add]
      refine v_hat (by omega) (by have := (CG_N hX hG).2.2; omega) (eqI ?_)
      rw [show uo G 2 (G 2) = G from uo_id rfl, show ad + 0 = ad from rfl, e3]
      exact kk
    · rw [h4]
      unfold V_X12_lists_188
      exact ⟨fun _ => ⟨fun c => absurd rfl c, fun _ => r_carC hX.1 hM hvv hc kk⟩, fun c => absurd rfl c⟩
  · by_cases hnn : v = vnil
    · refine s_opV (w := vnil) hX hF trivial (fun φ b lo hi G n p2 R hG hn kk => ?_) (fun g k n R hM hV h13 hn kk => pre g k n R hV (fun _ => kk) (fun c => absurd hnn c))
      refine c_ans1 (y := gv v) hG.2.1 ll ?_
      unfold AnsB
      refine ⟨by decide, vp_in_nI (n := 9) (by decide) (by decide), eqI ⟨fun _ => ?_, fun c => absurd c (by decide), fun c => absurd c (by decide), fun c => absurd c (by decide), fun c => absurd c (by decide), fun c => absurd c (by decide), fun c => absurd c (by decide), fun c => absurd c (by decide), fun c => absurd c (by decide), fun c => absurd c (by decide), fun c => absurd c (by decide), fun c => absurd c (by decide), fun c => absurd c (by decide), fun c => absurd c (by decide), fun c10 c11 c12 c13 c14 c15 c16 c17 c18 c19 c20 c21 c22 c23 => absurd rfl c10⟩⟩
      unfold V_X7_partOf
      refine c_tag hvv (CWd.rng hX hu hG.1) ⟨fun _ => ?_, fun c => absurd ((nI_eq (b := 4) (by omega) (by decide)).mp c) h4, fun c => absurd (by rw [hnn]; rfl) c⟩
      have kk : R (wd 1 0) G := kk
      rw [wd_nil] at kk; exact kk
    · refine s_opE (er := 4) hX hF (by decide) (by decide) (fun φ b lo hi G n p2 R hG hn kk => ?_) (fun g k n R hM hV h13 hn kk => pre g k n R hV (fun e => absurd e hnn) (fun _ => ?_))
      · refine c_ans1 (y := gv v) hG.2.1 ll ?_
        unfold AnsB
        refine ⟨by decide, vp_in_nI (n := 9) (by decide) (by decide), eqI ⟨fun _ => ?_, fun c => absurd c (by decide), fun c => absurd c (by decide), fun c => absurd c (by decide), fun c => absurd c (by decide), fun c => absurd c (by decide), fun c => absurd c (by decide), fun c => absurd c (by decide), fun c => absurd c (by decide), fun c => absurd c (by decide), fun c => absurd c (by decide), fun c => absurd c (by decide), fun c => absurd c (by decide), fun c => absurd c (by decide), fun c10 c11 c12 c13 c14 c15 c16 c17 c18 c19 c20 c21 c22 c23 => absurd rfl c10⟩⟩
        unfold V_X7_partOf V_X7_failing
        refine c_tag hvv (CWd.rng hX hu hG.1) ⟨fun c => ?_, fun c => absurd ((nI_eq (b := 4) (by omega) (by decide)).mp c) h4, fun _ _ => eqI (kk _)⟩
        have h1 := (nI_eq (b := 1) (by omega) (by decide)).mp c
        exfalso
        rcases v with _ | v | v | v | v | v | v
        · exact hnn rfl
        · exact absurd h1 (show ¬ 2 = 1 by decide)
        · exact absurd h1 (show ¬ 3 = 1 by decide)
        · exact absurd h1 (show ¬ 4 = 1 by decide)
        · exact absurd h1 (show ¬ 4 = 1 by decide)
        · exact absurd h1 (show ¬ 5 = 1 by decide)
        · exact absurd h1 (show ¬ 6 = 1 by decide)
      · unfold V_X12_lists_188 V_X12_fail
        exact ⟨fun c => absurd ((nI_eq (b := 4) (by omega) (by decide)).mp c) h4, fun _ => eqI (kk _)⟩
theorem s_10 {K : List Fr} {i st e q p D p1 : Nat} {sc : List (List Nat)} {vs : List Va} {v : Va} (hX : XC x G0 N) (hF : OpF x sv rc hp out inp cn K 10 i st e q p D p1 sc (v :: vs)) : Stq x G0 N cv cf ((1, p, v), (10, i, [], st, e, q, vs) :: K, sv, rc, hp, out, inp, cn) := by
  have evs := one_part hF rfl
  subst evs
  have hW := hF.1
  have hvv : VV x.K x.C hp v := hF.2.2.2.1 v (by simp)
  have hu := hF.1.2.2.2.2.2.2.1
  have l2 := hF.2.2.2.2.2.2.2.2.2.2.2.2.2.2.2.2.2.1
  have ll : ((cvl K).map gv).length < 1550 := by rw [List.length_map]; omega
  have hbl : (allv K).length < 1100 := by
    have := hF.2.2.2.2.2.2.2.2.2.2.2.2.2.2.2.2.2.2.2.2.1
    have : (allv K).length + 1 ≤ 1000 := this
    omega
  have hk7 := va_kd_lt v
  have pre : ∀ (g : St) (k : StL) (n : Nat) (R : Int32 → St → StL → Prop), VlM g ([v] ++ allv K) → (v = vnil → R 1048576 g k) → (¬ v = vnil → V_X12_lists_188 R n 9 (nI (allv K).length) (enc v) (nI (vkd v)) g k) → RefO n 10 (allv K).length g k R := fun g k n R hV k0 k1 => by
    refine ⟨fun _ => ?_, fun c => absurd c (by decide), fun c => absurd c (by decide)⟩
    unfold V_X12_lists
    rw [nI_clamp (by omega), vl_1 (l := allv K) hV]
    refine ⟨vp_in_nI (by omega) (by decide), eqI (r_sort hvv.ok ⟨fun _ => ⟨fun c => absurd c (by decide), fun _ => ⟨fun _ => ⟨fun c => absurd c (by decide), fun _ => ⟨fun c => k1 (fun e => c (by rw [e]; rfl)), fun c => k0 ((enc_nil_iff hvv.ok).mp c)⟩⟩, fun c => absurd c (by decide)⟩⟩, fun c => absurd c (by decide)⟩)⟩
  by_cases h4 : vkd v = 4
  · obtain ⟨pr, hc⟩ := cel_of (rc := rc) hvv h4
    have hnn : ¬ v = vnil := fun e => by rw [e] at h4; exact absurd h4 (show ¬ 1 = 4 by decide)
    refine s_opV (w := pr.2) hX hF (cel_VV hW hvv hc).2 (fun φ b lo hi G n p2 R hG hn kk => ?_) (fun g k n R hM hV h13 hn kk => pre g k n R hV (fun e => absurd e hnn) (fun _ => ?_))
    · refine c_ans1 (y := gv v) hG.2.1 ll ?_
      unfold AnsB
      refine ⟨by decide, vp_in_nI (n := 10) (by decide) (by decide), eqI ⟨fun c => absurd c (by decide), fun _ => ?_, fun c => absurd c (by decide), fun c => absurd c (by decide), fun c => absurd c (by decide), fun c => absurd c (by decide), fun c => absurd c (by decide), fun c => absurd c (by decide), fun c => absurd c (by decide), fun c => absurd c (by decide), fun c => absurd c (by decide), fun c => absurd c (by decide), fun c => absurd c (by decide), fun c => absurd c (by decide), fun c10 c11 c12 c13 c14 c15 c16 c17 c18 c19 c20 c21 c22 c23 => absurd rfl c11⟩⟩
      obtain ⟨ad, e1, e2, e3, e4⟩ := cel_cls hX hu hG hvv hc
      unfold V_X7_partOf
      refine c_tag hvv (CWd.rng hX hu hG.1) ⟨fun c => absurd ((nI_eq (b := 1) (by omega) (by decide)).mp c) (by omega), fun _ => c_held hvv (CWd.rng hX hu hG.1) ?_, fun _ c => absurd (by rw [h4]; rfl) c⟩
      rw [e1, iI_nat, show (1 : Int32) = nI 1 from rfl, nI_add]
      refine v_hat (by omega) (by have := (CG_N hX hG).2.2; omega) (eqI ?_)
      rw [show uo G 2 (G 2) = G from uo_id rfl, show ad + 1 = ad + 1 from rfl, e4]
      exact kk
    · rw [h4]
      unfold V_X12_lists_188
      exact ⟨fun _ => ⟨fun _ => ⟨fun c => absurd rfl c, fun _ => r_cdrC hX.1 hM hvv hc kk⟩, fun c => absurd c (by decide)⟩, fun c => absurd rfl c⟩
  · by_cases hnn : v = vnil
    · refine s_opV (w := vnil) hX hF trivial (fun φ b lo hi G n p2 R hG hn kk => ?_) (fun g k n R hM hV h13 hn kk => pre g k n R hV (fun _ => kk) (fun c => absurd hnn c))
      refine c_ans1 (y := gv v) hG.2.1 ll ?_
      unfold AnsB
      refine ⟨by decide, vp_in_nI (n := 10) (by decide) (by decide), eqI ⟨fun c => absurd c (by decide), fun _ => ?_, fun c => absurd c (by decide), fun c => absurd c (by decide), fun c => absurd c (by decide), fun c => absurd c (by decide), fun c => absurd c (by decide), fun c => absurd c (by decide), fun c => absurd c (by decide), fun c => absurd c (by decide), fun c => absurd c (by decide), fun c => absurd c (by decide), fun c => absurd c (by decide), fun c => absurd c (by decide), fun c10 c11 c12 c13 c14 c15 c16 c17 c18 c19 c20 c21 c22 c23 => absurd rfl c11⟩⟩
      unfold V_X7_partOf
      refine c_tag hvv (CWd.rng hX hu hG.1) ⟨fun _ => ?_, fun c => absurd ((nI_eq (b := 4) (by omega) (by decide)).mp c) h4, fun c => absurd (by rw [hnn]; rfl) c⟩
      have kk : R (wd 1 0) G := kk
      rw [wd_nil] at kk; exact kk
    · refine s_opE (er := 4) hX hF (by decide) (by decide) (fun φ b lo hi G n p2 R hG hn kk => ?_) (fun g k n R hM hV h13 hn kk => pre g k n R hV (fun e => absurd e hnn) (fun _ => ?_))
      · refine c_ans1 (y := gv v) hG.2.1 ll ?_
        unfold AnsB
        refine ⟨by decide, vp_in_nI (n := 10) (by decide) (by decide), eqI ⟨fun c => absurd c (by decide), fun _ => ?_, fun c => absurd c (by decide), fun c => absurd c (by decide), fun c => absurd c (by decide), fun c => absurd c (by decide), fun c => absurd c (by decide), fun c => absurd c (by decide), fun c => absurd c (by decide), fun c => absurd c (by decide), fun c => absurd c (by decide), fun c => absurd c (by decide), fun c => absurd c (by decide), fun c => absurd c (by decide), fun c10 c11 c12 c13 c14 c15 c16 c17 c18 c19 c20 c21 c22 c23 => absurd rfl c11⟩⟩
        unfold V_X7_partOf V_X7_failing
        refine c_tag hvv (CWd.rng hX hu hG.1) ⟨fun c => ?_, fun c => absurd ((nI_eq (b := 4) (by omega) (by decide)).mp c) h4, fun _ _ => eqI (kk _)⟩
        have h1 := (nI_eq (b := 1) (by omega) (by decide)).mp c
        exfalso
        rcases v with _ | v | v | v | v | v | v
        · exact hnn rfl
        · exact absurd h1 (show ¬ 2 = 1 by decide)
        · exact absurd h1 (show ¬ 3 = 1 by decide)
        · exact absurd h1 (show ¬ 4 = 1 by decide)
        · exact absurd h1 (show ¬ 4 = 1 by decide)
        · exact absurd h1 (show ¬ 5 = 1 by decide)
        · exact absurd h1 (show ¬ 6 = 1 by decide)
      · unfold V_X12_lists_188 V_X12_fail
        exact ⟨fun c => absurd ((nI_eq (b := 4) (by omega) (by decide)).mp c) h4, fun _ => eqI (kk _)⟩
theorem s_15 {K : List Fr} {i st e q p D p1 : Nat} {sc : List (List Nat)} {vs : List Va} {v : Va} (hX : XC x G0 N) (hF : OpF x sv rc hp out inp cn K 15 i st e q p D p1 sc (v :: vs)) : Stq x G0 N cv cf ((1, p, v), (15, i, [], st, e, q, vs) :: K, sv, rc, hp, out, inp, cn) := by
  have evs := one_part hF rfl
  subst evs
  have hW := hF.1
  have hvv : VV x.K x.C hp v := hF.2.2.2.1 v (by simp)
  have hu := hF.1.2.2.2.2.2.2.1
  have l2 := hF.2.2.2.2.2.2.2.2.2.2.2.2.2.2.2.2.2.1
  have ll : ((cvl K).map gv).length < 1550 := by rw [List.length_map]; omega
  have hbl : (allv K).length < 1100 := by
    have := hF.2.2.2.2.2.2.2.2.2.2.2.2.2.2.2.2.2.2.2.2.1
    have : (allv K).length + 1 ≤ 1000 := this
    omega
  have hk7 := va_kd_lt v
  refine s_opV (w := if decide (¬ vkd v = 4) then vsym 0 else vnil) hX hF (by split <;> first | trivial | (show 0 < 40; decide)) (fun φ b lo hi G n p2 R hG hn kk => ?_) (fun g k n R hM hV h13 hn kk => ⟨fun _ => ?_, fun c => absurd c (by decide), fun c => absurd c (by decide)⟩)
  · refine c_ans1 (y := gv v) hG.2.1 ll ?_
    unfold AnsB
    refine ⟨by decide, vp_in_nI (n := 15) (by decide) (by decide), eqI ⟨fun c => absurd c (by decide), fun c => absurd c (by decide), fun c => absurd c (by decide), fun c => absurd c (by decide), fun c => absurd c (by decide), fun c => absurd c (by decide), fun _ => ?_, fun c => absurd c (by decide), fun c => absurd c (by decide), fun c => absurd c (by decide), fun c => absurd c (by decide), fun c => absurd c (by decide), fun c => absurd c (by decide), fun c => absurd c (by decide), fun c10 c11 c12 c13 c14 c15 c16 c17 c18 c19 c20 c21 c22 c23 => absurd rfl c16⟩⟩
    refine c_tag hvv (CWd.rng hX hu hG.1) ⟨fun c => c_truth (φ := φ) (t := false) ?_, fun c => c_truth (φ := φ) (t := true) ?_⟩
    · rw [show decide (¬ vkd v = 4) = false from decide_eq_false (fun h => h ((nI_eq (b := 4) (by omega) (by decide)).mp c))] at kk; exact kk
    · rw [show decide (¬ vkd v = 4) = true from decide_eq_true (fun h => c (by rw [h]; rfl))] at kk; exact kk
  · unfold V_X12_lists
    rw [nI_clamp (by omega), vl_1 (l := allv K) hV]
    refine ⟨vp_in_nI (by omega) (by decide), eqI (r_sort hvv.ok ⟨fun c => absurd rfl c, fun _ => ⟨fun c => r_truth (t := false) ?_, fun c => r_truth (t := true) ?_⟩⟩)⟩
    · rw [show decide (¬ vkd v = 4) = false from decide_eq_false (fun h => h ((nI_eq (b := 4) (by omega) (by decide)).mp c))] at kk; exact kk
    · rw [show decide (¬ vkd v = 4) = true from decide_eq_true (fun h => c (by rw [h]; rfl))] at kk; exact kk
theorem s_16 {K : List Fr} {i st e q p D p1 : Nat} {sc : List (List Nat)} {vs : List Va} {v : Va} (hX : XC x G0 N) (hKf : Kfun x) (hF : OpF x sv rc hp out inp cn K 16 i st e q p D p1 sc (v :: vs)) : Stq x G0 N cv cf ((1, p, v), (16, i, [], st, e, q, vs) :: K, sv, rc, hp, out, inp, cn) := by
  obtain ⟨a, rfl⟩ := two_parts hF rfl rfl
  have hW := hF.1
  have hva : VV x.K x.C hp a := hF.2.2.2.1 a (by simp)
  have hvv : VV x.K x.C hp v := hF.2.2.2.1 v (by simp)
  have hu := hF.1.2.2.2.2.2.2.1
  have l2 := hF.2.2.2.2.2.2.2.2.2.2.2.2.2.2.2.2.2.1
  have ll : ([] ++ gv v :: gv a :: (cvl K).map gv).length ≤ 1550 := by
    show ((cvl K).map gv).length + 1 + 1 ≤ 1550
    rw [List.length_map]; omega
  have hbl : (allv K).length + 2 < 1100 := by
    have := hF.2.2.2.2.2.2.2.2.2.2.2.2.2.2.2.2.2.2.2.2.1
    have : (allv K).length + 2 ≤ 1000 := this
    omega
  have hk7 := va_kd_lt v
  have hk8 := va_kd_lt a
  refine s_opV (w := if decide (a = v) then vsym 0 else vnil) hX hF (by split <;> first | trivial | (show 0 < 40; decide)) (fun φ b lo hi G n p2 R hG hn kk => ?_) (fun g k n R hM hV h13 hn kk => ⟨fun c => absurd c (by decide), fun _ _ => ?_, fun c => absurd c (by decide)⟩)
  · refine c_ansM (L0 := []) (m := 2) hG.2.1 ll rfl ?_
    unfold AnsB
    refine ⟨by decide, vp_in_nI (n := 16) (by decide) (by decide), eqI ⟨fun c => absurd c (by decide), fun c => absurd c (by decide), fun c => absurd c (by decide), fun c => absurd c (by decide), fun c => absurd c (by decide), fun c => absurd c (by decide), fun c => absurd c (by decide), fun _ => ?_, fun c => absurd c (by decide), fun c => absurd c (by decide), fun c => absurd c (by decide), fun c => absurd c (by decide), fun c => absurd c (by decide), fun c => absurd c (by decide), fun c10 c11 c12 c13 c14 c15 c16 c17 c18 c19 c20 c21 c22 c23 => absurd rfl c17⟩⟩
    have hs := same_cw hX hu hG hva hvv
    refine ⟨fun c => c_truth (φ := φ) (t := false) ?_, fun c => c_truth (φ := φ) (t := true) ?_⟩
    · rw [show decide (a = v) = false from decide_eq_false (fun h => c (hs.mpr h))] at kk; exact kk
    · rw [show decide (a = v) = true from decide_eq_true (hs.mp c)] at kk; exact kk
  · obtain ⟨e1, e2⟩ := vl_2 (l := allv K) hV
    rw [e1, e2]
    have hs := same_enc hKf hva hvv
    unfold V_X12_numbers
    refine ⟨fun c => absurd rfl c, fun _ => ⟨fun c => r_truth (t := false) ?_, fun c => r_truth (t := true) ?_⟩⟩
    · rw [show decide (a = v) = false from decide_eq_false (fun h => c (hs.mpr h))] at kk; exact kk
    · rw [show decide (a = v) = true from decide_eq_true (hs.mp c)] at kk; exact kk
theorem vec_of {v : Va} (hv : VV x.K x.C hp v) (hk : vkd v = 5) : ∃ s l, v = vvec s ∧ s < 168 ∧ hp s = some (ovec l) := by
  rcases v with _ | v | v | ⟨v, v2⟩ | v | v | v
  · exact absurd hk (show ¬ 1 = 5 by decide)
  · exact absurd hk (show ¬ 2 = 5 by decide)
  · exact absurd hk (show ¬ 3 = 5 by decide)
  · exact absurd hk (show ¬ 4 = 5 by decide)
  · exact absurd hk (show ¬ 4 = 5 by decide)
  · obtain ⟨h1, l, h2⟩ := hv
    exact ⟨v, l, rfl, h1, h2⟩
  · exact absurd hk (show ¬ 6 = 5 by decide)
theorem vec_len (hW : PW x sv rc hp out inp) {s : Nat} {l : List Va} (ho : hp s = some (ovec l)) : l.length ≤ 7 ∧ ∀ v ∈ l, VV x.K x.C hp v := (hW.2.2.2.2.2.1 s _ ho).2
end CW
section CX1
variable {x : Cx} {G0 G : SG} {N : Nat} {φ : Nat → Nat} {b lo hi : Nat} {sv : Nat → Option Va} {rc : Nat → Va × Va} {hp : Nat → Option Ob} {out : List Nat} {inp : List Int} {cn : Nat → Int32} {LV LC LK : List Gw} {p n i : Nat} {post : Int32 → SG → Prop}
theorem c_vlen {s : Nat} {l : List Va} {R : Int32 → SG → Prop} (hX : XC x G0 N) (hW : PW x sv rc hp out inp) (h : CG x G0 φ b lo hi sv rc hp out inp cn LV LC LK p G) (ho : hp s = some (ovec l)) (k : R (nI l.length) G) : V_X2_vectorLength N (cw φ (vvec s)) (G 2) (fun r u => ∀ g : SG, g = uo G 2 u → R r g) := by
  have hu := hW.2.2.2.2.2.2.1
  have hr := CWd.rng hX hu h.1 s _ ho
  obtain ⟨-, a2, a3, a4⟩ := h.1.2.2.1.1 s _ ho
  have a3 : φ s + (l.length + 1) ≤ b + usum hp 168 := a3
  obtain ⟨n1, n2, n3⟩ := CG_N hX h
  have hm : G 2 1 (φ s) = wd 2 (l.length : Int) := a4 0 (by show 0 < l.length + 1; omega)
  have hl := (vec_len hW ho).1
  unfold V_X2_vectorLength
  refine v_held (t := 5) (h := (φ s : Int)) (by decide) (by omega) (by omega) ?_
  rw [iI_nat]
  refine v_hat (by omega) (by omega) ?_
  rw [hm]
  refine v_held (t := 2) (h := (l.length : Int)) (by decide) (by omega) (by omega) (eqI ?_)
  rw [show uo G 2 (G 2) = G from uo_id rfl, iI_nat]; exact k
/-- where a vector's value lies -/
theorem c_ixd {s : Nat} {m : Int} {l : List Va} {R : Int32 → SG → Prop} (hX : XC x G0 N) (hW : PW x sv rc hp out inp) (h : CG x G0 φ b lo hi sv rc hp out inp cn LV LC LK p G) (ho : hp s = some (ovec l)) (hm : i16 m) (k1 : ∀ j : Nat, m = (j : Int) → j < l.length → R (nI (φ s + 1 + j)) G) (k0 : ¬ (0 ≤ m ∧ m < (l.length : Int)) → R (-1) (uo G 4 (us (G 4) 2 6))) : V_X7_indexed N (cw φ (vvec s)) (cw φ (vnum m)) G R := by
  have hu := hW.2.2.2.2.2.2.1
  have hr := CWd.rng hX hu h.1 s _ ho
  have hl := (vec_len hW ho).1
  have b1 := hm.1
  have b2 := hm.2
  unfold V_X7_indexed
  refine v_tag (t := 5) (h := (φ s : Int)) (by decide) (by omega) (by omega) ⟨fun c => absurd rfl c, fun _ => c_tagM hm ⟨fun _ => c_heldM hm ⟨fun c => eqI (k0 (fun h9 => ?_)), fun c => c_vlen hX hW h ho ⟨fun c2 => ?_, fun c2 => eqI (k0 (fun h9 => c2 ?_))⟩⟩, fun c => absurd rfl c⟩⟩
  · rw [show (0 : Int32) = iI 0 from rfl, iI_lt (by omega) (by omega) (by decide) (by decide)] at c
    omega
  · rw [← iI_nat, iI_lt (by omega) (by omega) (by omega) (by omega)] at c2
    have hge : ¬ m < 0 := fun h9 => c (by rw [show (0 : Int32) = iI 0 from rfl, iI_lt (by omega) (by omega) (by decide) (by decide)]; exact h9)
    obtain ⟨j, rfl⟩ : ∃ j : Nat, m = (j : Int) := ⟨m.toNat, by omega⟩
    refine v_held (t := 5) (h := (φ s : Int)) (by decide) (by omega) (by omega) ?_
    rw [iI_nat, iI_nat, nI_1, nI_add]
    exact k1 j rfl (by omega)
  · rw [← iI_nat, iI_lt (by omega) (by omega) (by omega) (by omega)]
    exact h9.2
theorem c_ixdX {v1 v2 : Va} {R : Int32 → SG → Prop} (hR : Rng φ hp) (h1 : VV x.K x.C hp v1) (h2 : VV x.K x.C hp v2) (hne : ¬ (vkd v1 = 5 ∧ vkd v2 = 2)) (k : R (-1) (uo G 4 (us (G 4) 2 4))) : V_X7_indexed N (cw φ v1) (cw φ v2) G R := by
  have hk1 := va_kd_lt v1
  have hk2 := va_kd_lt v2
  unfold V_X7_indexed
  refine c_tag h1 hR ⟨fun _ => eqI k, fun c1 => c_tag h2 hR ⟨fun c2 => ?_, fun _ => eqI k⟩⟩
  exact absurd ⟨(nI_eq (b := 5) (by omega) (by decide)).mp c1, (nI_eq (b := 2) (by omega) (by decide)).mp c2⟩ hne
end CX1
section CX2
variable {x : Cx} {G0 : SG} {N : Nat} {cv cf : Int32} {sv : Nat → Option Va} {rc : Nat → Va × Va} {hp : Nat → Option Ob} {out : List Nat} {inp : List Int} {cn : Nat → Int32}
theorem vec_fld {g : St} {s j : Nat} {l : List Va} (hM : HpM g hp) (hs : s < 168) (ho : hp s = some (ovec l)) (hj : j < l.length) : g 10 (8 * s + j) = enc (l.getD j none) := by
  obtain ⟨-, -, h3⟩ := (hM s hs).2 _ ho
  have := h3 j (by show j < (l.map enc).length; rw [List.length_map]; exact hj)
  rw [this]
  show (l.map enc).getD j 0 = _
  rw [List.getD_eq_getElem?_getD, List.getElem?_map, List.getElem?_eq_getElem hj, List.getD_eq_getElem?_getD, List.getElem?_eq_getElem hj]; rfl
theorem vec_wd {g : St} {s : Nat} {l : List Va} (hM : HpM g hp) (hs : s < 168) (ho : hp s = some (ovec l)) : g 9 s - 1 = nI l.length := by
  obtain ⟨-, h2, -⟩ := (hM s hs).2 _ ho
  rw [h2]; exact nI_pred _
theorem s_29 {K : List Fr} {i st e q p D p1 : Nat} {sc : List (List Nat)} {vs : List Va} {v : Va} (hX : XC x G0 N) (hF : OpF x sv rc hp out inp cn K 29 i st e q p D p1 sc (v :: vs)) : Stq x G0 N cv cf ((1, p, v), (29, i, [], st, e, q, vs) :: K, sv, rc, hp, out, inp, cn) := by
  have evs := one_part hF rfl
  subst evs
  have hW := hF.1
  have hvv : VV x.K x.C hp v := hF.2.2.2.1 v (by simp)
  have hu := hF.1.2.2.2.2.2.2.1
  have l2 := hF.2.2.2.2.2.2.2.2.2.2.2.2.2.2.2.2.2.1
  have ll : ((cvl K).map gv).length < 1550 := by rw [List.length_map]; omega
  have hbl : (allv K).length < 1100 := by
    have := hF.2.2.2.2.2.2.2.2.2.2.2.2.2.2.2.2.2.2.2.2.1
    have : (allv K).length + 1 ≤ 1000 := this
    omega
  have hk7 := va_kd_lt v
  by_cases h5 : vkd v = 5
  · obtain ⟨s, l, rfl, hs, ho⟩ := vec_of hvv h5
    have hl := (vec_len hW ho).1
    refine s_opV (w := vnum (l.length : Int)) hX hF ⟨by omega, by omega⟩ (fun φ b lo hi G n p2 R hG hn kk => ?_) (fun g k n R hM hV h13 hn kk => ⟨fun c => absurd c (by decide), fun _ c => absurd c (by decide), fun _ => ?_⟩)
    · refine c_ans1 (y := gv (vvec s)) hG.2.1 ll ?_
      unfold AnsB
      refine ⟨by decide, vp_in_nI (n := 29) (by decide) (by decide), eqI ⟨fun c => absurd c (by decide), fun c => absurd c (by decide), fun c => absurd c (by decide), fun c => absurd c (by decide), fun c => absurd c (by decide), fun c => absurd c (by decide), fun c => absurd c (by decide), fun c => absurd c (by decide), fun c => absurd c (by decide), fun c => absurd c (by decide), fun c => absurd c (by decide), fun _ => ?_, fun c => absurd c (by decide), fun c => absurd c (by decide), fun c10 c11 c12 c13 c14 c15 c16 c17 c18 c19 c20 c21 c22 c23 => absurd rfl c21⟩⟩
      unfold V_X7_lengthOf
      refine c_tag hvv (CWd.rng hX hu hG.1) ⟨fun _ => c_vlen hX hW hG ho ?_, fun c => absurd rfl c⟩
      rw [← iI_nat]
      exact v_of (t := 2) (by decide) kk
    · unfold V_X12_others
      rw [nI_clamp (by omega), vl_1 (l := allv K) hV]
      refine ⟨vp_in_nI (by omega) (by decide), eqI ⟨fun _ => ⟨fun _ => ⟨fun _ => r_sort hvv.ok ⟨fun _ => r_load hvv.ok ?_, fun c => absurd rfl c⟩, fun c => absurd c (by decide)⟩, fun c => absurd c (by decide)⟩, fun c => absurd c (by decide)⟩⟩
      rw [show (nI (vld (vvec s))).toNatClampNeg = s from nI_clamp (n := s) (by omega), vec_wd hM.2.2.2.2.1 hs ho]
      refine ⟨vp_in_nI (n := s) hs (by decide), eqI ⟨fun c => absurd rfl c, fun _ => ?_⟩⟩
      rw [← iI_nat]
      exact r_numeral (by omega) (by omega) kk
  · refine s_opE (er := 4) hX hF (by decide) (by decide) (fun φ b lo hi G n p2 R hG hn kk => ?_) (fun g k n R hM hV h13 hn kk => ⟨fun c => absurd c (by decide), fun _ c => absurd c (by decide), fun _ => ?_⟩)
    · refine c_ans1 (y := gv v) hG.2.1 ll ?_
      unfold AnsB
      refine ⟨by decide, vp_in_nI (n := 29) (by decide) (by decide), eqI ⟨fun c => absurd c (by decide), fun c => absurd c (by decide), fun c => absurd c (by decide), fun c => absurd c (by decide), fun c => absurd c (by decide), fun c => absurd c (by decide), fun c => absurd c (by decide), fun c => absurd c (by decide), fun c => absurd c (by decide), fun c => absurd c (by decide), fun c => absurd c (by decide), fun _ => ?_, fun c => absurd c (by decide), fun c => absurd c (by decide), fun c10 c11 c12 c13 c14 c15 c16 c17 c18 c19 c20 c21 c22 c23 => absurd rfl c21⟩⟩
      unfold V_X7_lengthOf V_X7_failing
      exact c_tag hvv (CWd.rng hX hu hG.1) ⟨fun c => absurd ((nI_eq (b := 5) (by omega) (by decide)).mp c) h5, fun _ => eqI (kk _)⟩
    · unfold V_X12_others V_X12_fail
      rw [nI_clamp (by omega), vl_1 (l := allv K) hV]
      exact ⟨vp_in_nI (by omega) (by decide), eqI ⟨fun _ => ⟨fun _ => ⟨fun _ => r_sort hvv.ok ⟨fun c => absurd ((nI_eq (b := 5) (by omega) (by decide)).mp c) h5, fun _ => eqI (kk _)⟩, fun c => absurd c (by decide)⟩, fun c => absurd c (by decide)⟩, fun c => absurd c (by decide)⟩⟩
theorem s_27 {K : List Fr} {i st e q p D p1 : Nat} {sc : List (List Nat)} {vs : List Va} {v : Va} (hX : XC x G0 N) (hF : OpF x sv rc hp out inp cn K 27 i st e q p D p1 sc (v :: vs)) : Stq x G0 N cv cf ((1, p, v), (27, i, [], st, e, q, vs) :: K, sv, rc, hp, out, inp, cn) := by
  obtain ⟨a, rfl⟩ := two_parts hF rfl rfl
  have hW := hF.1
  have hva : VV x.K x.C hp a := hF.2.2.2.1 a (by simp)
  have hvv : VV x.K x.C hp v := hF.2.2.2.1 v (by simp)
  have hu := hF.1.2.2.2.2.2.2.1
  have l2 := hF.2.2.2.2.2.2.2.2.2.2.2.2.2.2.2.2.2.1
  have ll : ([] ++ gv v :: gv a :: (cvl K).map gv).length ≤ 1550 := by
    show ((cvl K).map gv).length + 1 + 1 ≤ 1550
    rw [List.length_map]; omega
  have hbl : (allv K).length + 2 < 1100 := by
    have := hF.2.2.2.2.2.2.2.2.2.2.2.2.2.2.2.2.2.2.2.2.1
    have : (allv K).length + 2 ≤ 1000 := this
    omega
  have hk7 := va_kd_lt v
  have hk8 := va_kd_lt a
  have pre : ∀ (g : St) (k : StL) (n : Nat) (R : Int32 → St → StL → Prop), MW x cv cf sv rc hp out inp cn g k → VlM g ([v, a] ++ allv K) → (¬ (vkd a = 5 ∧ vkd v = 2) → R 1048576 (us g 18 4) k) → (∀ s l m, a = vvec s → s < 168 → hp s = some (ovec l) → v = vnum m → i16 m → ¬ (0 ≤ m ∧ m < (l.length : Int)) → R 1048576 (us g 18 6) k) → (∀ s l (j : Nat), a = vvec s → s < 168 → hp s = some (ovec l) → v = vnum (j : Int) → j < l.length → R (enc (l.getD j none)) g k) → RefO n 27 (allv K).length g k R := fun g k n R hM hV k4 k6 k1 => by
    refine ⟨fun c => absurd c (by decide), fun _ c => absurd c (by decide), fun _ => ?_⟩
    obtain ⟨e1, e2⟩ := vl_2 (l := allv K) hV
    unfold V_X12_others
    rw [nI_clamp (by omega), nI_1, nI_clamp (by omega), e1, e2]
    refine ⟨vp_in_nI (by omega) (by decide), eqI ⟨fun _ => ⟨fun _ => ⟨fun _ => r_sort hva.ok ⟨fun c5 => ?_, fun c5 => eqI (k4 (fun h => c5 (by rw [h.1]; rfl)))⟩, fun c => absurd c (by decide)⟩, fun c => absurd c (by decide)⟩, fun c => absurd c (by decide)⟩⟩
    have h5 := (nI_eq (b := 5) (by omega) (by decide)).mp c5
    obtain ⟨s, l, rfl, hs, ho⟩ := vec_of hva h5
    have hl := (vec_len hW ho).1
    refine r_load hva.ok ?_
    rw [show (nI (vld (vvec s))).toNatClampNeg = s from nI_clamp (n := s) (by omega), vec_wd hM.2.2.2.2.1 hs ho]
    refine ⟨vp_in_nI (n := s) hs (by decide), eqI ⟨fun _ => ⟨vp_in_nI (by omega) (by decide), r_sort hvv.ok ⟨fun c2 => ⟨vp_in_nI (by omega) (by decide), ?_⟩, fun c2 => eqI (k4 (fun h => c2 (by rw [h.2]; rfl)))⟩⟩, fun c => absurd c (by decide)⟩⟩
    obtain ⟨m, rfl⟩ := num_of ((nI_eq (b := 2) (by omega) (by decide)).mp c2)
    have hm : i16 m := hvv
    have b1 := hm.1
    have b2 := hm.2
    refine r_amount b1 b2 ⟨fun c => eqI (k6 s l m rfl hs ho rfl hm (fun h9 => ?_)), fun c => ⟨fun c2 => ⟨fun _ => r_load hva.ok ?_, fun c => absurd c (by decide)⟩, fun c2 => eqI (k6 s l m rfl hs ho rfl hm (fun h9 => c2 ?_))⟩⟩
    · rw [show (0 : Int32) = iI 0 from rfl, iI_lt (by omega) (by omega) (by decide) (by decide)] at c
      omega
    · rw [← iI_nat, iI_lt (by omega) (by omega) (by omega) (by omega)] at c2
      have hge : ¬ m < 0 := fun h9 => c (by rw [show (0 : Int32) = iI 0 from rfl, iI_lt (by omega) (by omega) (by decide) (by decide)]; exact h9)
      obtain ⟨j, rfl⟩ : ∃ j : Nat, m = (j : Int) := ⟨m.toNat, by omega⟩
      rw [show nI (vld (vvec s)) = nI s from rfl, show (8 : Int32) = nI 8 from rfl, nI_mul, iI_nat, nI_add, nI_clamp (by omega), vec_fld hM.2.2.2.2.1 hs ho (by omega)]
      exact ⟨vp_in_nI (by omega) (by decide), k1 s l j rfl hs ho rfl (by omega)⟩
    · rw [← iI_nat, iI_lt (by omega) (by omega) (by omega) (by omega)]
      exact h9.2
  by_cases hk : vkd a = 5 ∧ vkd v = 2
  case neg =>
    refine s_opE (er := 4) hX hF (by decide) (by decide) (fun φ b lo hi G n p2 R hG hn kk => ?_) (fun g k n R hM hV h13 hn kk => pre g k n R hM hV (fun _ => kk _) (fun s l m ea _ _ ev => absurd ⟨by rw [ea]; rfl, by rw [ev]; rfl⟩ hk) (fun s l j ea _ _ ev => absurd ⟨by rw [ea]; rfl, by rw [ev]; rfl⟩ hk))
    refine c_ansM (L0 := []) (m := 2) hG.2.1 ll rfl ?_
    unfold AnsB
    refine ⟨by decide, vp_in_nI (n := 27) (by decide) (by decide), eqI ⟨fun c => absurd c (by decide), fun c => absurd c (by decide), fun c => absurd c (by decide), fun c => absurd c (by decide), fun c => absurd c (by decide), fun c => absurd c (by decide), fun c => absurd c (by decide), fun c => absurd c (by decide), fun c => absurd c (by decide), fun _ => ?_, fun c => absurd c (by decide), fun c => absurd c (by decide), fun c => absurd c (by decide), fun c => absurd c (by decide), fun c10 c11 c12 c13 c14 c15 c16 c17 c18 c19 c20 c21 c22 c23 => absurd rfl c19⟩⟩
    refine c_ixdX (CWd.rng hX hu hG.1) hva hvv hk ?_
    unfold V_X2_at
    refine ⟨fun _ => eqI ?_, fun c => absurd (by decide) c⟩
    rw [show uo (uo G 4 (us (G 4) 2 4)) 2 ((uo G 4 (us (G 4) 2 4)) 2) = uo G 4 (us (G 4) 2 4) from uo_id rfl]
    exact kk _
  obtain ⟨s, l, rfl, hs, ho⟩ := vec_of hva hk.1
  obtain ⟨m, rfl⟩ := num_of hk.2
  have hm : i16 m := hvv
  have hl := (vec_len hW ho)
  by_cases hin : 0 ≤ m ∧ m < (l.length : Int)
  · obtain ⟨j, rfl⟩ : ∃ j : Nat, m = (j : Int) := ⟨m.toNat, by omega⟩
    have hj : j < l.length := by omega
    refine s_opV (w := l.getD j none) hX hF (hl.2 _ (l_getD hj)) (fun φ b lo hi G n p2 R hG hn kk => ?_) (fun g k n R hM hV h13 hn kk => pre g k n R hM hV (fun c => absurd hk c) (fun s2 l2 m2 ea _ ho2 ev _ hno => ?_) (fun s2 l2 j2 ea _ ho2 ev hj2 => ?_))
    · refine c_ansM (L0 := []) (m := 2) hG.2.1 ll rfl ?_
      unfold AnsB
      refine ⟨by decide, vp_in_nI (n := 27) (by decide) (by decide), eqI ⟨fun c => absurd c (by decide), fun c => absurd c (by decide), fun c => absurd c (by decide), fun c => absurd c (by decide), fun c => absurd c (by decide), fun c => absurd c (by decide), fun c => absurd c (by decide), fun c => absurd c (by decide), fun c => absurd c (by decide), fun _ => ?_, fun c => absurd c (by decide), fun c => absurd c (by decide), fun c => absurd c (by decide), fun c => absurd c (by decide), fun c10 c11 c12 c13 c14 c15 c16 c17 c18 c19 c20 c21 c22 c23 => absurd rfl c19⟩⟩
      refine c_ixd hX hW hG ho hm (fun j2 ej hj2 => ?_) (fun c => absurd hin c)
      have ej : j2 = j := by omega
      subst ej
      obtain ⟨-, a2, a3, a4⟩ := hG.1.2.2.1.1 s _ ho
      have a3 : φ s + (l.length + 1) ≤ b + usum hp 168 := a3
      obtain ⟨n1, n2, n3⟩ := CG_N hX hG
      have hmw : G 2 1 (φ s + 1 + j2) = cw φ (l.getD j2 none) := by
        have := a4 (1 + j2) (by show 1 + j2 < l.length + 1; omega)
        rw [show φ s + 1 + j2 = φ s + (1 + j2) by omega, this]
        show (wd 2 (l.length : Int) :: l.map (cw φ)).getD (1 + j2) 0 = _
        rw [show 1 + j2 = j2 + 1 by omega]
        show (l.map (cw φ)).getD j2 0 = _
        rw [List.getD_eq_getElem?_getD, List.getElem?_map, List.getElem?_eq_getElem hj, List.getD_eq_getElem?_getD, List.getElem?_eq_getElem hj]; rfl
      refine v_hat (by omega) (by omega) (eqI ?_)
      rw [show uo G 2 (G 2) = G from uo_id rfl, hmw]
      exact kk
    · cases ea
      rw [ho] at ho2; cases ho2
      cases ev
      exact absurd hin hno
    · cases ea
      rw [ho] at ho2; cases ho2
      have : (j : Int) = (j2 : Int) := by cases ev; rfl
      have : j = j2 := by omega
      subst this
      exact kk
  · refine s_opE (er := 6) hX hF (by decide) (by decide) (fun φ b lo hi G n p2 R hG hn kk => ?_) (fun g k n R hM hV h13 hn kk => pre g k n R hM hV (fun c => absurd hk c) (fun s2 l2 m2 ea _ ho2 ev _ hno => kk _) (fun s2 l2 j2 ea _ ho2 ev hj2 => ?_))
    · refine c_ansM (L0 := []) (m := 2) hG.2.1 ll rfl ?_
      unfold AnsB
      refine ⟨by decide, vp_in_nI (n := 27) (by decide) (by decide), eqI ⟨fun c => absurd c (by decide), fun c => absurd c (by decide), fun c => absurd c (by decide), fun c => absurd c (by decide), fun c => absurd c (by decide), fun c => absurd c (by decide), fun c => absurd c (by decide), fun c => absurd c (by decide), fun c => absurd c (by decide), fun _ => ?_, fun c => absurd c (by decide), fun c => absurd c (by decide), fun c => absurd c (by decide), fun c => absurd c (by decide), fun c10 c11 c12 c13 c14 c15 c16 c17 c18 c19 c20 c21 c22 c23 => absurd rfl c19⟩⟩
      refine c_ixd hX hW hG ho hm (fun j2 ej hj2 => absurd ⟨by omega, by omega⟩ hin) (fun _ => ?_)
      unfold V_X2_at
      refine ⟨fun _ => eqI ?_, fun c => absurd (by decide) c⟩
      rw [show uo (uo G 4 (us (G 4) 2 6)) 2 ((uo G 4 (us (G 4) 2 6)) 2) = uo G 4 (us (G 4) 2 6) from uo_id rfl]
      exact kk _
    · cases ea
      rw [ho] at ho2; cases ho2
      have : m = (j2 : Int) := by cases ev; rfl
      exact absurd ⟨by omega, by omega⟩ hin
end CX2
