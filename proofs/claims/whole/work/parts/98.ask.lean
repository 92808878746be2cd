-- ===== a form is asked for: steps that leave the world as it is =====
section AK
variable {x : Cx} {G0 : SG} {N : Nat} {cv cf : Int32} {sv : Nat → Option Va} {rc : Nat → Va × Va} {hp : Nat → Option Ob} {out : List Nat} {inp : List Int} {cn : Nat → Int32}
theorem Cn_LB {Kf : List Fr} {p d : Nat} {sc : List (List Nat)} (h : Cn x hp Kf p d sc) (hd : 1 ≤ d) (hn : ncal Kf ≤ 30) : Kf.length ≤ 372 ∧ (cvl Kf).length ≤ 1488 ∧ (ccl Kf).length ≤ 60 ∧ (cat Kf).length ≤ 1488 := by
  obtain ⟨-, a2, a3, a4, a5, -⟩ := Cn_all Kf p d sc h
  have := Cn_len Kf p d sc h
  omega
theorem cw_nm {φ ψ : Nat → Nat} {v : Va} (h : ¬ made v) : cw φ v = cw ψ v := by
  rcases v with _ | v | v | v | v | v | v
  · rfl
  · rfl
  · rfl
  · rfl
  · exact absurd trivial h
  · exact absurd trivial h
  · exact absurd trivial h
theorem VV_none {K : Nat → Nat → Prop} {C : Nat → Prop} {v : Va} (h : VV K C (fun _ => none) v) : VV K C hp v ∧ ¬ made v := by
  rcases v with _ | v | v | v | v | v | v
  · exact ⟨trivial, fun c => c⟩
  · exact ⟨h, fun c => c⟩
  · exact ⟨h, fun c => c⟩
  · exact ⟨h, fun c => c⟩
  · obtain ⟨-, a, d, h⟩ := h; cases h
  · obtain ⟨-, a, h⟩ := h; cases h
  · obtain ⟨-, a, d, h⟩ := h; cases h
theorem cnU_at (cn : Nat → Int32) (j : Nat) (v : Int32) : cnU cn j v j = v := if_pos rfl
theorem cnU_ne (cn : Nat → Int32) {j i : Nat} (v : Int32) (h : i ≠ j) : cnU cn j v i = cn i := if_neg h
theorem MW_st {w : Int32} {g g1 : St} {k : StL} (h : MW x cv cf sv rc hp out inp cn g k) (h1 : ∀ c, c ≠ 0 → (c < 15 ∨ 22 ≤ c) → g1 c = g c) (h2 : ∀ j, (j < 12 ∨ 21 ≤ j) → g1 0 j = g 0 j) (h3 : g1 0 19 = w) : MW x cv cf sv rc hp out inp (cnU cn 2 w) g1 k := by
  obtain ⟨a1, a2, a3, a4, a5, a6, a7, a8, a9, a10, a11, a12, a13, a14, a15, a16, a17⟩ := h
  have hM : MW x cv cf sv rc hp out inp (cnU cn 2 w) (us g 19 w) k := ⟨a1, a2, a3, a4, a5, a6, a7, a8, a9, a10, a11, a12, rfl, a14, a15, a16, a17⟩
  refine MW_fr hM (fun c hc h => (h1 c hc h).trans (usZ hc).symm) (fun j hj => ?_)
  by_cases e : j = 19
  · rw [e, h3]; rfl
  · rw [us0, if_neg e]; exact h2 j (by omega)
theorem CtK_st {m m1 st : Nat} {Kf Kf1 : List Fr} (h : CtK m Kf cn) (hs : cn 2 = nI st) (hst : st < 1000) (ha : (allv Kf1).length + m1 ≤ (allv Kf).length + m + 1) (hn : ncal Kf1 = ncal Kf) : CtK m1 Kf1 (cnU cn 2 (nI (st + 1))) := by
  obtain ⟨s1, dp, c1, c2, c3, c4, c5, c6⟩ := h
  have e : s1 = st := (nI_eq (by omega) (by omega)).mp (c1.symm.trans hs)
  subst e
  exact ⟨s1 + 1, dp, cnU_at _ _ _, (cnU_ne _ _ (by decide)).trans c2, by omega, c4, by omega, by omega⟩
/-- a step is counted; then by the kind of the form -/
theorem r_eval {g : St} {k : StL} {Kf : List Fr} {v : Va} {st n : Nat} {post : St → StL → Prop} (hM : MW x cv cf sv rc hp out inp cn g k) (hK : MK Kf g) (h14 : g 0 14 = enc v) (h15 : g 0 15 = nI (fe Kf)) (hs : cn 2 = nI st) (hst : st < 1000) (hv : vok v)
    (ka : vkd v ≠ 3 → vkd v ≠ 4 → ∀ g1, MW x cv cf sv rc hp out inp (cnU cn 2 (nI (st + 1))) g1 k → MK Kf g1 → g1 0 16 = enc v → g1 0 17 = 1 → post g1 k)
    (ks : vkd v = 3 → ∀ g1, MW x cv cf sv rc hp out inp (cnU cn 2 (nI (st + 1))) g1 k → MK Kf g1 → g1 0 14 = enc v → g1 0 15 = nI (fe Kf) → g1 0 17 = 1 → V_X12_place n (enc v) (nI (fe Kf)) g1 k (fun r_34 g_32 k_33 => ((0 ≤ r_34 → V_X12_evaluate_89 post n 3 r_34 g_32 k_33) ∧ (¬ 0 ≤ r_34 → V_X12_load (g_32 0 14) (fun r_36 => (vp_in r_36 40 ∧ ((¬ (g_32 2 r_36.toNatClampNeg) = 0 → V_X12_evaluate_89 post n 3 r_34 g_32 k_33) ∧ ((g_32 2 r_36.toNatClampNeg) = 0 → ∀ g_38 : St, g_38 = us g_32 18 (3 : Int32) → V_X12_evaluate_89 post n 3 r_34 g_38 k_33))))))))
    (kl : vkd v = 4 → ∀ g1, MW x cv cf sv rc hp out inp (cnU cn 2 (nI (st + 1))) g1 k → MK Kf g1 → g1 0 14 = enc v → g1 0 15 = nI (fe Kf) → g1 0 17 = 1 → V_X12_opOf (enc v) g1 k (fun r_28 g_26 k_27 => V_X12_begin n r_28 g_26 k_27 (fun g_29 k_30 => post g_29 k_30))) : V_X12_evaluate n g k post := by
  obtain ⟨b1, b2, b3, b4, b5, b6⟩ := hK
  have e19 : g 0 19 = nI st := hM.2.2.2.2.2.2.2.2.2.2.2.2.1.trans hs
  have hM1 : MW x cv cf sv rc hp out inp (cnU cn 2 (nI (st + 1))) (us (us (us g 19 (nI (st + 1))) 17 1) 16 (enc v)) k := MW_st hM (fun c hc _ => by rw [usZ hc, usZ hc, usZ hc]) (fun j hj => by rw [us0, if_neg (by omega), us0, if_neg (by omega), us0, if_neg (by omega)]) rfl
  have hK1 : MK Kf (us (us (us g 19 (nI (st + 1))) 17 1) 16 (enc v)) := ⟨b1, b2, b3, FrM_fr Kf (fun c c1 c2 t ht => by rw [usZ (by omega), usZ (by omega), usZ (by omega)]) b4, VlM_fr (fun t ht => rfl) b5, b6⟩
  unfold V_X12_evaluate
  rw [e19]
  refine ⟨fun _ => ?_, fun c => absurd ((nI_eq (b := 1000) (by omega) (by decide)).mp c) (by omega)⟩
  rw [nI_1]
  refine eqI ?_
  rw [show (us g 19 (nI (st + 1))) 0 14 = enc v from h14]
  refine r_sort hv (eqI ?_)
  rw [show (us (us g 19 (nI (st + 1))) 17 1) 0 14 = enc v from h14]
  have hk := va_kd_lt v
  refine eqI ⟨fun c3 => ⟨fun c4 => ka (fun e => c3 (by rw [e]; rfl)) (fun e => c4 (by rw [e]; rfl)) _ hM1 hK1 rfl rfl, fun c4 => ?_⟩, fun c3 => ?_⟩
  · rw [show (us (us (us g 19 (nI (st + 1))) 17 1) 16 (enc v)) 0 14 = enc v from h14]
    exact kl ((nI_eq (b := 4) (by omega) (by decide)).mp c4) _ hM1 hK1 h14 h15 rfl
  · rw [show (us (us (us g 19 (nI (st + 1))) 17 1) 16 (enc v)) 0 14 = enc v from h14, show (us (us (us g 19 (nI (st + 1))) 17 1) 16 (enc v)) 0 15 = nI (fe Kf) from h15, c3]
    exact ks ((nI_eq (b := 3) (by omega) (by decide)).mp c3) _ hM1 hK1 h14 h15 rfl
theorem CtK_lim {m : Nat} {Kf : List Fr} (h : CtK m Kf cn) : ∃ st, cn 2 = nI st ∧ st ≤ 1000 ∧ (cn 2).toNatClampNeg = st ∧ ncal Kf ≤ 30 := by
  obtain ⟨st, dp, c1, c2, c3, c4, c5, c6⟩ := h
  exact ⟨st, c1, c3, by rw [c1]; exact nI_clamp (by omega), by omega⟩
/-- too many steps -/
theorem a_full {Kf : List Fr} {v : Va} {p : Nat} (hX : XC x G0 N) (h : PA x ((0, p, v), Kf, sv, rc, hp, out, inp, cn)) (hs : cn 2 = nI 1000) : Stq x G0 N cv cf ((0, p, v), Kf, sv, rc, hp, out, inp, cn) := by
  obtain ⟨hW, hCt, hvo, hsy, D, sc, q, hE, hq, hD, hK⟩ := h
  obtain ⟨st0, -, -, -, hn⟩ := CtK_lim hCt
  have hlt := AtE_lt D sc v p q hE
  have hD1 : 1 ≤ D := by
    cases D with
    | zero => exact hE.elim
    | succ D => omega
  have hc1 : x.c p = 1 := by
    cases D with
    | zero => exact hE.elim
    | succ D => exact hE.1
  obtain ⟨l1, l2, l3, l4⟩ := Cn_LB hK hD1 hn
  have htp := hX.1.2.2.2.2.2.2
  refine ⟨((4, 0, none), [], sv, rc, hp, out, inp, cn), ⟨hW, by decide, by decide⟩, ?_, ?_, ?_⟩
  · show 0 < _ + Kf.length + 1
    omega
  · intro G post n i hG hn2 hi2 kk
    obtain ⟨φ, b, lo, hi, hG⟩ := hG
    obtain ⟨n, rfl⟩ : ∃ n', n = n' + 1 := ⟨n - 1, by omega⟩
    exact i_stepX hX hG (by omega) hs ⟨by rw [List.length_map]; omega, l3, l4⟩ (by omega) hc1 (fun G1 h1 => kk G1 n (i + 1) ⟨φ, b, lo, hi, h1⟩ (by omega) (by omega))
  · intro g k post n hR hn2 kk
    obtain ⟨hM, hK2, h14, h15, h17⟩ := hR
    refine r_run0 hK2.2.2.2.2.2 h17 ?_
    unfold V_X12_evaluate
    have e19 : g 0 19 = nI 1000 := hM.2.2.2.2.2.2.2.2.2.2.2.2.1.trans hs
    rw [e19]
    refine ⟨fun c => absurd rfl c, fun _ => eqI (kk _ k ⟨MW_fr hM (fun c hc _ => usZ hc) (fun j hj => ?_), rfl⟩)⟩
    rw [us0, if_neg (by omega)]
/-- a number or nil -/
theorem a_atom {Kf : List Fr} {v : Va} {p st : Nat} (hX : XC x G0 N) (h : PA x ((0, p, v), Kf, sv, rc, hp, out, inp, cn)) (hs : cn 2 = nI st) (hst : st < 1000) (hv : v = vnil ∨ ∃ m, v = vnum m) : Stq x G0 N cv cf ((0, p, v), Kf, sv, rc, hp, out, inp, cn) := by
  obtain ⟨hW, hCt, hvo, hsy, D, sc, q, hE, hq, hD, hK⟩ := h
  obtain ⟨st0, e0, hst0, ecl, hn⟩ := CtK_lim hCt
  have e9 : st0 = st := (nI_eq (by omega) (by omega)).mp (e0.symm.trans hs)
  subst e9
  have hlt := AtE_lt D sc v p q hE
  have hD1 : 1 ≤ D := by
    cases D with
    | zero => exact hE.elim
    | succ D => omega
  obtain ⟨l1, l2, l3, l4⟩ := Cn_LB hK hD1 hn
  have htp := hX.1.2.2.2.2.2.2
  obtain ⟨c0, c1, c2, c3, hnm⟩ : x.c p = 1 ∧ x.c (p + 1) = 2 ∧ x.c (p + 2) = cw (fun _ => 0) v ∧ q = p + 3 ∧ ¬ made v := by
    cases D with
    | zero => exact hE.elim
    | succ D =>
      rcases hv with rfl | ⟨m, rfl⟩
      · obtain ⟨a0, a1, a2, a3, a4, a5⟩ := hE
        exact ⟨a0, a1, a2, a3, a4⟩
      · obtain ⟨a0, a1, a2, a3, a4, a5⟩ := hE
        exact ⟨a0, a1, a2, a3, a4⟩
  have hkd : vkd v ≠ 3 ∧ vkd v ≠ 4 := by
    rcases hv with rfl | ⟨m, rfl⟩
    · exact ⟨show ¬ 1 = 3 by decide, show ¬ 1 = 4 by decide⟩
    · exact ⟨show ¬ 2 = 3 by decide, show ¬ 2 = 4 by decide⟩
  have hVV : VV x.K x.C hp v := by rcases hv with rfl | ⟨m, rfl⟩ <;> first | trivial | exact hvo
  refine ⟨((1, p + 3, v), Kf, sv, rc, hp, out, inp, cnU cn 2 (nI (st0 + 1))), ⟨hW, CtK_st hCt hs hst (by omega) rfl, hVV, sc, ?_⟩, ?_, ?_, ?_⟩
  · rw [← c3]; exact Cn_mono Kf q D 1 sc hD1 hK
  · show 3 * (1001 - (cnU cn 2 (nI (st0 + 1)) 2).toNatClampNeg) + Kf.length + 2 < 3 * (1001 - (cn 2).toNatClampNeg) + Kf.length + 1
    rw [cnU_at, nI_clamp (by omega), ecl]; omega
  · intro G post n i hG hn2 hi2 kk
    obtain ⟨φ, b, lo, hi, hG⟩ := hG
    obtain ⟨n, rfl⟩ : ∃ n', n = n' + 2 := ⟨n - 2, by omega⟩
    refine i_step (n := n + 1) hX hG (by omega) hs hst (by omega) c0 (fun G1 h1 => ?_)
    refine i_word (y := gv v) hX h1 (by omega) (by omega) c1 (c2.trans (cw_nm hnm)) (by rw [List.length_map]; omega) (fun G2 h2 => kk G2 n (i + 1 + 1) ⟨φ, b, lo, hi, h2⟩ (by omega) (by omega))
  · intro g k post n hR hn2 kk
    obtain ⟨hM, hK2, h14, h15, h17⟩ := hR
    refine r_run0 hK2.2.2.2.2.2 h17 (r_eval hM hK2 h14 h15 hs hst hvo (fun _ _ g1 m1 m2 m3 m4 => kk g1 k ⟨m1, m2, m3, m4⟩) (fun c => absurd c hkd.1) (fun c => absurd c hkd.2))
end AK
