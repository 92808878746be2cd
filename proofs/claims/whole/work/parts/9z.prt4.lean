-- ===== printing: the reference's rounds =====
section PN
variable {x : Cx} {cv cf : Int32} {sv : Nat → Option Va} {rc : Nat → Va × Va} {hp : Nat → Option Ob} {out out0 : List Nat} {inp : List Int} {cn : Nat → Int32} {g0 g : St} {k : StL} {n : Nat} {post : St → StL → Prop} {S : List (Va × Int)}
theorem Pr_top {v w : Va} {j j1 : Int} (h : Pr g0 ((v, j) :: S) out g) : Pr g0 ((v, j1) :: S) out (up g 26 S.length (iI j1)) ∧ Pr g0 ((w, j1) :: S) out (up (up g 25 S.length (enc w)) 26 S.length (iI j1)) := by
  obtain ⟨a1, a2, a3, a4, a5, ⟨b1, b2, b3⟩, a7⟩ := h
  refine ⟨⟨fun c c0 c1 c2 c3 => ?_, a2, a3, a4, a5, ⟨b1, ?_, StkP_fr (g := g) S (fun t ht => ⟨rfl, ?_⟩) b3⟩, a7⟩, ⟨fun c c0 c1 c2 c3 => ?_, a2, a3, a4, a5, ⟨?_, ?_, StkP_fr (g := g) S (fun t ht => ⟨?_, ?_⟩) b3⟩, a7⟩⟩
  · rw [upB _ _ _ c3]; exact a1 c c0 c1 c2 c3
  · exact updE _ _ _
  · show upd (g 26) S.length _ t = _
    rw [updN _ _ (by omega)]
  · rw [upB _ _ _ c3, upB _ _ _ c2]; exact a1 c c0 c1 c2 c3
  · exact updE _ _ _
  · exact updE _ _ _
  · show upd (g 25) S.length _ t = _
    rw [updN _ _ (by omega)]
  · show upd (g 26) S.length _ t = _
    rw [updN _ _ (by omega)]
theorem Pr_pop {v : Va} {j : Int} (h : Pr g0 ((v, j) :: S) out g) : Pr g0 S out (us g 26 (g 0 26 - 1)) := by
  obtain ⟨a1, a2, a3, a4, a5, ⟨b1, b2, b3⟩, a7⟩ := h
  have a7 : S.length + 1 ≤ 8 := a7
  refine ⟨fun c c0 c1 c2 c3 => ?_, fun j j1 j2 => ?_, ⟨a3.1, a3.2⟩, a4, ?_, StkP_fr (g := g) S (fun t ht => ⟨rfl, rfl⟩) b3, by omega⟩
  · rw [usZ c0]; exact a1 c c0 c1 c2 c3
  · rw [us4 _ _ j2]; exact a2 j j1 j2
  · show g 0 26 - 1 = _
    rw [a5]; exact nI_pred _
theorem RS_cel {v : Va} {j : Int} (h4 : vkd v = 4) : RS x rc hp ((v, j) :: S) out = RS x rc hp S (if j = 0 then lop (prp rc hp) (SH x rc hp (7 - S.length)) 200 (prp rc hp v).2 (SH x rc hp (7 - S.length) (prp rc hp v).1 out) else if 0 < j then lop (prp rc hp) (SH x rc hp (7 - S.length)) 200 (prp rc hp v).2 out else add1 out 41) := by
  show RS x rc hp S (if vkd v = 4 then _ else _) = _
  rw [if_pos h4]
theorem RS_vec {s t : Nat} {L : List Va} (ho : hp s = some (ovec L)) : RS x rc hp ((vvec s, (t : Int)) :: S) out = RS x rc hp S (vlp (SH x rc hp (7 - S.length)) (decide ((t : Int) = 0)) (L.drop t) out) := by
  show RS x rc hp S (if vkd (vvec s) = 4 then _ else vlp (SH x rc hp (7 - S.length)) (decide ((t : Int) = 0)) ((vel hp (vvec s)).drop (t : Int).toNat) out) = _
  rw [if_neg (show ¬ vkd (vvec s) = 4 from (by decide : ¬ 5 = 4)), vel_vec ho]; rfl
theorem r_more (hx : XOK x) (hW : PW x sv rc hp out0 inp) (hM : MW x cv cf sv rc hp out0 inp cn g0 k) (hn : 200 ≤ n) (hS : SOK x hp S) (hne : S ≠ []) (hl : out.length < 200) (h : Pr g0 S out g) (kk : ∀ S2 out2 g1, Pr g0 S2 out2 g1 → SOK x hp S2 → RS x rc hp S2 out2 = RS x rc hp S out → mP S2 out2 < mP S out → post g1 k) : V_X12_more n g k post := by
  have hf : ∀ e v out, out.length ≤ (SH x rc hp e v out).length := fun e v out => shw_le e v out
  cases S with
  | nil => exact absurd rfl hne
  | cons f S =>
    obtain ⟨v, j⟩ := f
    obtain ⟨hv, hst⟩ := hS (v, j) (by simp)
    have hv : VV x.K x.C hp v := hv
    have hS' : SOK x hp S := fun f hf => hS f (by simp [hf])
    have a5 : g 0 26 = nI (S.length + 1) := h.2.2.2.2.1
    have a7 : S.length + 1 ≤ 8 := h.2.2.2.2.2.2
    obtain ⟨b1, b2, b3⟩ := h.2.2.2.2.2.1
    have ec : (nI S.length).toNatClampNeg = S.length := nI_clamp (by omega)
    have vi : vp_in (nI S.length) 10 := vp_in_nI (by omega) (by decide)
    have e8 : ∀ w j, 8 - (((w, j) : Va × Int) :: S).length = 7 - S.length := fun w j => by show 8 - (S.length + 1) = _; omega
    have hMg := Pr_MW hM h
    have mdec : ∀ (S1 S2 : List (Va × Int)) (o1 o2 : List Nat), out.length ≤ o1.length → o1.length ≤ o2.length → (S2 = S1 ∨ ∃ w, S2 = (w, 0) :: S1 ∧ (o2.length = o1.length + 1 ∨ 200 ≤ o2.length)) → mP S1 o1 = 2 * (200 - o1.length) → (out.length < o1.length ∨ j = 0) → mP S2 o2 < mP ((v, j) :: S) out := fun S1 S2 o1 o2 h1 h2 h3 h4 h5 => by
      have hm0 : mP ((v, j) :: S) out = 2 * (200 - out.length) + (if j = 0 then 1 else 0) := rfl
      rw [hm0]
      rcases h3 with rfl | ⟨w, rfl, h3⟩
      · have hm1 : mP S2 o2 = 2 * (200 - o2.length) + (mP S2 o1 - 2 * (200 - o1.length)) := by
          unfold mP; omega
        rw [hm1, h4]
        rcases h5 with h5 | h5
        · split <;> omega
        · rw [if_pos h5]; omega
      · have hm1 : mP ((w, 0) :: S1) o2 = 2 * (200 - o2.length) + 1 := rfl
        rw [hm1]
        rcases h5 with h5 | h5
        · split <;> omega
        · rw [if_pos h5]; omega
    have mpop : ∀ c, mP S (add1 out c) < mP ((v, j) :: S) out := fun c => by
      have h1 := mP_le S (add1 out c)
      rw [add1_lt hl] at h1
      have hm0 : mP ((v, j) :: S) out = 2 * (200 - out.length) + (if j = 0 then 1 else 0) := rfl
      rw [hm0]; omega
    unfold V_X12_more
    rw [a5, nI_pred]
    refine eqI ?_
    rw [ec, b1, b2]
    refine ⟨vi, eqI ⟨vi, eqI ⟨vi, eqI ?_⟩⟩⟩
    rw [show iI j + 1 = iI (j + 1) by rw [show (1 : Int32) = iI 1 from rfl, iI_add]]
    obtain ⟨hP1, -⟩ := Pr_top (w := v) (j1 := j + 1) h
    have hM1 := Pr_MW hM hP1
    refine r_sort hv.ok ⟨fun c5 => ?_, fun c5 => ?_⟩
    · -- a cell
      have h4 : vkd v = 4 ∧ (j = 0 ∨ j = 1 ∨ j = -9) := by
        rcases hst with hst | ⟨h5, -⟩
        · exact hst
        · have h5 : vkd v = 5 := h5
          exact absurd (by rw [h5]; rfl) c5
      obtain ⟨h4, hj⟩ := h4
      obtain ⟨hv1, hv2⟩ := cel_VV hW hv (prp_cel (rc := rc) hv h4)
      have hjr : -9 ≤ j ∧ j ≤ 1 := by omega
      have j0 : iI j = 0 ↔ j = 0 := by rw [show (0 : Int32) = iI 0 from rfl]; exact iI_eq (by omega) (by omega) (by decide) (by decide)
      have jp : (0 : Int32) ≤ iI j ↔ 0 ≤ j := by rw [show (0 : Int32) = iI 0 from rfl]; exact iI_le (by decide) (by decide) (by omega) (by omega)
      refine ⟨fun cj => ?_, fun cj => ?_⟩
      · have hj0 : j ≠ 0 := fun e => cj (j0.mpr e)
        refine ⟨fun cp => ?_, fun cp => ?_⟩
        · -- the rest of the list
          have hj1 : j = 1 := by have := jp.mp cp; omega
          subst hj1
          have hlp : RS x rc hp ((v, 1) :: S) out = RS x rc hp S (lop (prp rc hp) (SH x rc hp (7 - S.length)) 200 (prp rc hp v).2 out) := by
            rw [RS_cel h4, if_neg (by decide), if_pos (by decide)]
          refine r_cdrC hx hM1 hv (prp_cel hv h4) ?_
          rw [lop_eq (hf _)] at hlp
          have hk7 := va_kd_lt (prp rc hp v).2
          have hk1 : vkd (prp rc hp v).2 = 1 ↔ (prp rc hp v).2 = vnil := by
            generalize (prp rc hp v).2 = w
            rcases w with _ | v | v | ⟨v, v2⟩ | v | v | v
            · exact ⟨fun _ => rfl, fun _ => rfl⟩
            · exact ⟨fun c => absurd c (show ¬ 2 = 1 by decide), fun c => (by cases c)⟩
            · exact ⟨fun c => absurd c (show ¬ 3 = 1 by decide), fun c => (by cases c)⟩
            · exact ⟨fun c => absurd c (show ¬ 4 = 1 by decide), fun c => (by cases c)⟩
            · exact ⟨fun c => absurd c (show ¬ 4 = 1 by decide), fun c => (by cases c)⟩
            · exact ⟨fun c => absurd c (show ¬ 5 = 1 by decide), fun c => (by cases c)⟩
            · exact ⟨fun c => absurd c (show ¬ 6 = 1 by decide), fun c => (by cases c)⟩
          unfold V_X12_more_127
          rw [ec]
          refine ⟨fun cn1 => ?_, fun cn1 => ?_⟩
          · have hnn : ¬ vkd (prp rc hp v).2 = 1 := fun c => cn1 ((enc_nil_iff hv2.ok).mpr (hk1.mp c))
            rw [if_neg hnn, if_neg (by omega)] at hlp
            refine r_put (c := 32) (by decide) hP1 (fun g1 h1 => r_sort hv2.ok ⟨fun cs => ?_, fun cs => ?_⟩)
            · have n4 : ¬ vkd (prp rc hp v).2 = 4 := fun c => cs (by rw [c]; rfl)
              rw [if_neg n4] at hlp
              obtain ⟨hP2, -⟩ := Pr_top (w := v) (j1 := -9) h1
              refine ⟨vi, eqI (r_put (c := 46) (by decide) hP2 (fun g2 h2 => r_put (c := 32) (by decide) h2 (fun g3 h3 => ?_)))⟩
              have hS3 : SOK x hp ((v, -9) :: S) := fun f hf => by
                rcases List.mem_cons.mp hf with e | e
                · rw [e]; exact ⟨hv, Or.inl ⟨h4, Or.inr (Or.inr rfl)⟩⟩
                · exact hS' f e
              refine r_show hx hM (by omega) hv2 hS3 h3 (fun S2 out2 g4 q1 q2 q3 q4 q5 => kk S2 out2 g4 q1 q2 ?_ ?_)
              · rw [q3, e8, RS_cel h4, if_neg (by decide), if_neg (by decide), hlp]; rfl
              · have h9 : out.length + 1 ≤ (add1 (add1 (add1 out 32) 46) 32).length := by
                  have := add1_lt (c := 32) hl
                  have := add1_le (out := add1 out 32) (c := 46)
                  have := add1_le (out := add1 (add1 out 32) 46) (c := 32)
                  omega
                exact mdec _ S2 _ out2 (by omega) q4 q5 rfl (Or.inl (by omega))
            · have n4 : vkd (prp rc hp v).2 = 4 := (nI_eq (b := 4) (by omega) (by decide)).mp cs
              rw [if_pos n4] at hlp
              obtain ⟨-, hP2⟩ := Pr_top (w := (prp rc hp v).2) (j1 := 1) h1
              refine ⟨vi, eqI ⟨vi, eqI ?_⟩⟩
              have hM2 := Pr_MW hM hP2
              obtain ⟨hw1, hw2⟩ := cel_VV hW hv2 (prp_cel (rc := rc) hv2 n4)
              refine r_carC hx hM2 hv2 (prp_cel hv2 n4) ?_
              have hS3 : SOK x hp (((prp rc hp v).2, 1) :: S) := fun f hf => by
                rcases List.mem_cons.mp hf with e | e
                · rw [e]; exact ⟨hv2, Or.inl ⟨n4, Or.inr (Or.inl rfl)⟩⟩
                · exact hS' f e
              refine r_show hx hM (by omega) hw1 hS3 hP2 (fun S2 out2 g4 q1 q2 q3 q4 q5 => kk S2 out2 g4 q1 q2 ?_ ?_)
              · rw [q3, e8, RS_cel n4, if_neg (by decide), if_pos (by decide), hlp]
              · have h9 := add1_lt (c := 32) hl
                exact mdec _ S2 _ out2 (by omega) q4 q5 rfl (Or.inl (by omega))
          · have hnil : vkd (prp rc hp v).2 = 1 := hk1.mpr ((enc_nil_iff hv2.ok).mp cn1)
            rw [if_pos hnil] at hlp
            exact r_put (c := 41) (by decide) hP1 (fun g1 h1 => eqI (kk S _ _ (Pr_pop h1) hS' hlp.symm (mpop 41)))
        · -- behind the dot
          have hj9 : j = -9 := by
            have : ¬ 0 ≤ j := fun z => cp (jp.mpr z)
            omega
          subst hj9
          unfold V_X12_more_127
          refine ⟨fun c => absurd rfl c, fun _ => r_put (c := 41) (by decide) hP1 (fun g1 h1 => eqI (kk S _ _ (Pr_pop h1) hS' ?_ (mpop 41)))⟩
          rw [RS_cel h4, if_neg (by decide), if_neg (by decide)]
      · -- its first part
        have hj0 : j = 0 := j0.mp cj
        subst hj0
        refine r_carC hx hM1 hv (prp_cel hv h4) ?_
        have hS3 : SOK x hp ((v, 0 + 1) :: S) := fun f hf => by
          rcases List.mem_cons.mp hf with e | e
          · rw [e]; exact ⟨hv, Or.inl ⟨h4, Or.inr (Or.inl rfl)⟩⟩
          · exact hS' f e
        refine r_show hx hM (by omega) hv1 hS3 hP1 (fun S2 out2 g4 q1 q2 q3 q4 q5 => kk S2 out2 g4 q1 q2 ?_ ?_)
        · rw [q3, e8, RS_cel h4, if_neg (by decide), if_pos (by decide), RS_cel h4, if_pos rfl]
        · exact mdec _ S2 _ out2 (Nat.le_refl _) q4 q5 rfl (Or.inr rfl)
    · -- a vector
      have hk7 := va_kd_lt v
      have h5 : vkd v = 5 := (nI_eq (b := 5) (by omega) (by decide)).mp c5
      obtain ⟨s, L, rfl, hs, ho⟩ := vec_of hv h5
      obtain ⟨l7, hlV⟩ := vec_len hW ho
      obtain ⟨t, et, htl⟩ : ∃ t : Nat, j = (t : Int) ∧ t ≤ L.length := by
        rcases hst with ⟨h4, -⟩ | ⟨-, t, e, ht⟩
        · have h4 : vkd (vvec s) = 4 := h4
          exact absurd (h5.symm.trans h4) (by decide)
        · have ht : t ≤ (vel hp (vvec s)).length := ht
          rw [vel_vec ho] at ht
          exact ⟨t, e, ht⟩
      subst et
      refine r_load (v := vvec s) hs ?_
      rw [show nI (vld (vvec s)) = nI s from rfl, nI_clamp (by omega), iI_nat]
      have e9 : (up g 26 S.length (iI ((t : Int) + 1))) 9 s - 1 = nI L.length := vec_wd hM1.2.2.2.2.1 hs ho
      rw [e9]
      refine ⟨vp_in_nI hs (by decide), fun ct => ?_, fun ct => ?_⟩
      · have ht : t < L.length := by
          have : t ≠ L.length := fun e => ct (by rw [e])
          omega
        have hmem := l_getD ht
        have ed : L.drop t = L.getD t none :: L.drop (t + 1) := by
          rw [List.getD_eq_getElem?_getD, List.getElem?_eq_getElem ht]
          exact List.drop_eq_getElem_cons ht
        have hS3 : SOK x hp ((vvec s, (t : Int) + 1) :: S) := fun f hf => by
          rcases List.mem_cons.mp hf with e | e
          · rw [e]; exact ⟨hv, Or.inr ⟨h5, t + 1, rfl, by rw [show (vel hp (vvec s, (t : Int) + 1).1).length = L.length by rw [vel_vec ho]]; omega⟩⟩
          · exact hS' f e
        have hRS : RS x rc hp ((vvec s, (t : Int)) :: S) out = RS x rc hp S (vlp (SH x rc hp (7 - S.length)) false (L.drop (t + 1)) (SH x rc hp (7 - S.length) (L.getD t none) (if decide ((t : Int) = 0) then out else add1 out 32))) := by
          rw [RS_vec ho, ed]
          congr 1
          exact if_neg (by omega)
        have hRS1 : ∀ o, RS x rc hp ((vvec s, (t : Int) + 1) :: S) o = RS x rc hp S (vlp (SH x rc hp (7 - S.length)) false (L.drop (t + 1)) o) := fun o => by
          rw [show (t : Int) + 1 = ((t + 1 : Nat) : Int) from rfl, RS_vec ho, decide_eq_false (show ¬ ((t + 1 : Nat) : Int) = 0 by omega)]
        have mp1 : ∀ o, mP ((vvec s, (t : Int) + 1) :: S) o = 2 * (200 - o.length) := fun o => by
          show _ + (if (t : Int) + 1 = 0 then 1 else 0) = _
          rw [if_neg (by omega)]; rfl
        have efd : ∀ g1 o, Pr g0 ((vvec s, (t : Int) + 1) :: S) o g1 → g1 10 (nI (8 * s + t)).toNatClampNeg = enc (L.getD t none) := fun g1 o h1 => by
          rw [nI_clamp (by omega)]
          exact vec_fld (Pr_MW hM h1).2.2.2.2.1 hs ho ht
        have e8s : (8 : Int32) * nI s + nI t = nI (8 * s + t) := by rw [show (8 : Int32) = nI 8 from rfl, nI_mul, nI_add]
        refine ⟨fun c0 => ?_, fun c0 => ?_⟩
        · have t0 : t = 0 := by have := (nI_leI (b := 0) (by omega) (by decide)).mp c0; omega
          refine r_load (v := vvec s) hs ?_
          rw [show nI (vld (vvec s)) = nI s from rfl, e8s, efd _ _ hP1]
          refine ⟨vp_in_nI (by omega) (by decide), r_show hx hM (by omega) (hlV _ hmem) hS3 hP1 (fun S2 out2 g4 q1 q2 q3 q4 q5 => kk S2 out2 g4 q1 q2 ?_ ?_)⟩
          · rw [q3, e8, hRS1, hRS, decide_eq_true (show (t : Int) = 0 by omega), if_pos rfl]
          · exact mdec _ S2 _ out2 (Nat.le_refl _) q4 q5 (mp1 _) (Or.inr (by omega))
        · have t0 : ¬ t = 0 := fun e => c0 (by rw [e]; exact Int32.le_refl _)
          refine r_put (c := 32) (by decide) hP1 (fun g1 h1 => r_load (v := vvec s) hs ?_)
          rw [show nI (vld (vvec s)) = nI s from rfl, e8s, efd _ _ h1]
          refine ⟨vp_in_nI (by omega) (by decide), r_show hx hM (by omega) (hlV _ hmem) hS3 h1 (fun S2 out2 g4 q1 q2 q3 q4 q5 => kk S2 out2 g4 q1 q2 ?_ ?_)⟩
          · rw [q3, e8, hRS1, hRS, decide_eq_false (show ¬ (t : Int) = 0 by omega), if_neg (by decide)]
          · have h9 := add1_lt (c := 32) hl
            exact mdec _ S2 _ out2 (by omega) q4 q5 (mp1 _) (Or.inl (by omega))
      · have ht : t = L.length := (nI_eq (by omega) (by omega)).mp ct
        refine r_put (c := 93) (by decide) hP1 (fun g1 h1 => eqI (kk S _ _ (Pr_pop h1) hS' ?_ (mpop 93)))
        rw [RS_vec ho, List.drop_of_length_le (by omega)]; rfl
theorem r_prt10 (hx : XOK x) (hW : PW x sv rc hp out0 inp) (hM : MW x cv cf sv rc hp out0 inp cn g0 k) : ∀ (M n : Nat) (S : List (Va × Int)) (out : List Nat) (g : St), mP S out ≤ M → M + 300 < n → Pr g0 S out g → SOK x hp S → (∀ S1 g1, Pr g0 S1 (RS x rc hp S out) g1 → post g1 k) → V_X12_print_10 post n g k := by
  intro M
  induction M with
  | zero =>
    intro n S out g hm hn h hS kk
    obtain ⟨n, rfl⟩ : ∃ n', n = n' + 1 := ⟨n - 1, by omega⟩
    have hfull : 200 ≤ out.length := by unfold mP at hm; omega
    have e24 : g 0 24 = nI out.length := h.2.2.1.1
    have hl2 := h.2.2.2.1.1
    have h8 := h.2.2.2.2.2.2
    unfold V_X12_print_10
    rw [h.2.2.2.2.1, e24]
    have fin : V_X12_put 10 g k (fun g_2 k_3 => post g_2 k_3) := r_put (c := 10) (by decide) h (fun g1 h1 => kk S g1 (by rw [show RS x rc hp S out = out from rst_full S hfull]; rw [add1_full hfull] at h1; exact h1))
    exact ⟨fun _ => fin, fun _ => ⟨fun _ => fin, fun c => absurd (nI_le (a := 200) hfull (by omega)) c⟩⟩
  | succ M ih =>
    intro n S out g hm hn h hS kk
    obtain ⟨n, rfl⟩ : ∃ n', n = n' + 1 := ⟨n - 1, by omega⟩
    have e24 : g 0 24 = nI out.length := h.2.2.1.1
    have hl2 := h.2.2.2.1.1
    have h8 := h.2.2.2.2.2.2
    unfold V_X12_print_10
    rw [h.2.2.2.2.1, e24]
    refine ⟨fun c => ?_, fun c => ⟨fun c2 => ?_, fun c2 => ?_⟩⟩
    · have h0 : S.length = 0 := by have := (nI_leI (b := 0) (by omega) (by decide)).mp c; omega
      have e : S = [] := List.length_eq_zero_iff.mp h0
      subst e
      exact r_put (c := 10) (by decide) h (fun g1 h1 => kk [] g1 h1)
    · have hfull : 200 ≤ out.length := (nI_leI (a := 200) (by decide) (by omega)).mp c2
      exact r_put (c := 10) (by decide) h (fun g1 h1 => kk S g1 (by rw [show RS x rc hp S out = out from rst_full S hfull]; rw [add1_full hfull] at h1; exact h1))
    · have hlt : out.length < 200 := by
        rcases Nat.lt_or_ge out.length 200 with z | z
        · exact z
        · exact absurd (nI_le (a := 200) z (by omega)) c2
      have hne : S ≠ [] := fun e => c (by rw [e]; exact Int32.le_refl _)
      refine r_more hx hW hM (by omega) hS hne hlt h (fun S2 out2 g1 q1 q2 q3 q4 => ih n S2 out2 g1 (by omega) (by omega) q1 q2 (fun S1 g2 q5 => kk S1 g2 ?_))
      rw [← q3]; exact q5
theorem r_print {v : Va} (hx : XOK x) (hW : PW x sv rc hp out inp) (hM : MW x cv cf sv rc hp out inp cn g k) (hn : 2000 ≤ n) (hv : VV x.K x.C hp v) (kk : ∀ S1 g1, Pr g S1 (add1 (SH x rc hp 8 v out) 10) g1 → post g1 k) : V_X12_print n (enc v) g k post := by
  unfold V_X12_print
  refine eqI ?_
  have hP : Pr g [] out (us g 26 0) := ⟨fun c c0 c1 c2 c3 => usZ c0, fun j j1 j2 => us4 _ _ j2, ⟨hM.2.2.2.2.2.2.2.2.1.1, hM.2.2.2.2.2.2.2.2.1.2⟩, PW_ok hW, rfl, trivial, Nat.zero_le _⟩
  refine r_show hx hM (by omega) hv (fun f hf => (by cases hf)) hP (fun S2 out2 g1 q1 q2 q3 q4 q5 => ?_)
  have := mP_le S2 out2
  refine r_prt10 hx hW hM 401 n S2 out2 g1 (by omega) (by omega) q1 q2 (fun S1 g2 q6 => kk S1 g2 ?_)
  rw [q3] at q6
  exact q6
end PN
section PS
variable {x : Cx} {G0 : SG} {N : Nat} {cv cf : Int32} {sv : Nat → Option Va} {rc : Nat → Va × Va} {hp : Nat → Option Ob} {out : List Nat} {inp : List Int} {cn : Nat → Int32}
theorem s_30 {K : List Fr} {i st e q p D p1 : Nat} {sc : List (List Nat)} {vs : List Va} {v : Va} (hX : XC x G0 N) (hF : OpF x sv rc hp out inp cn K 30 i st e q p D p1 sc (v :: vs)) : Stq x G0 N cv cf ((1, p, v), (30, i, [], st, e, q, vs) :: K, sv, rc, hp, out, inp, cn) := by
  have evs := one_part hF rfl
  subst evs
  have hW := hF.1
  have hvv : VV x.K x.C hp v := hF.2.2.2.1 v (by simp)
  have l2 := hF.2.2.2.2.2.2.2.2.2.2.2.2.2.2.2.2.2.1
  have hK := hF.2.2.2.2.2.2.2.2.2.2.2.2.2.2.2.1
  have hbl : (allv K).length + 1 < 1100 := by
    have := hF.2.2.2.2.2.2.2.2.2.2.2.2.2.2.2.2.2.2.2.2.1
    have : (allv K).length + 1 ≤ 1000 := this
    omega
  have hok : OKo (add1 (SH x rc hp 8 v out) 10) := add1_ok (shw_ok (tx_ok hX) 8 v out (PW_ok hW)) (by decide)
  refine s_opW (w := v) (rc1 := rc) (hp1 := hp) (out1 := add1 (SH x rc hp 8 v out) 10) (inp1 := inp) hX hF (PW_out hW hok) hK hvv (fun φ b lo hi G n p2 R hG hw hn kk => ?_) (fun g k n R hM hKM hn kk => ?_)
  · refine c_ans1 (y := gv v) (LV := (cvl K).map gv) hG.2.1 (by rw [List.length_map]; omega) ?_
    unfold AnsB
    refine ⟨by decide, vp_in_nI (n := 30) (by decide) (by decide), eqI ⟨fun c => absurd c (by decide), fun c => absurd c (by decide), fun c => absurd c (by decide), fun c => absurd c (by decide), fun c => absurd c (by decide), fun c => absurd c (by decide), fun c => absurd c (by decide), fun c => absurd c (by decide), fun c => absurd c (by decide), fun c => absurd c (by decide), fun c => absurd c (by decide), fun c => absurd c (by decide), fun _ => ?_, fun c => absurd c (by decide), fun c10 c11 c12 c13 c14 c15 c16 c17 c18 c19 c20 c21 c22 c23 => absurd rfl c22⟩⟩
    refine c_write hX (by omega) 8 0 rfl v out G _ hvv hW hG (fun G1 h1 e1 => ?_)
    unfold V_X4_endLine
    refine c_addc (c := 10) h1 (fun G2 h2 e2 => kk lo hi G2 h2 ?_)
    rw [e2, e1]; exact hw
  · refine ⟨fun c => absurd c (by decide), fun _ c => absurd c (by decide), fun _ => ?_⟩
    have e1 := vl_1 (l := allv K) hKM.2.2.2.2.1
    unfold V_X12_others
    rw [nI_clamp (by omega), e1]
    refine ⟨vp_in_nI (by omega) (by decide), eqI ⟨fun _ => ⟨fun c => absurd rfl c, fun _ => ?_⟩, fun c => absurd c (by decide)⟩⟩
    refine r_print hX.1 hW hM (by omega) hvv (fun S1 g1 hP => kk g1 (Pr_MW hM hP) ?_)
    obtain ⟨a1, a2, -⟩ := hP
    obtain ⟨b1, b2, b3, b4, b5, b6⟩ := hKM
    exact ⟨(a2 12 (by decide) (by decide)).trans b1, (a2 13 (by decide) (by decide)).trans b2, (a2 20 (by decide) (by decide)).trans b3, FrM_fr _ (fun c c1 c2 t ht => by rw [a1 c (by omega) (by omega) (by omega) (by omega)]) b4, VlM_fr (fun t ht => by rw [a1 21 (by decide) (by decide) (by decide) (by decide)]) b5, (a2 18 (by decide) (by decide)).trans b6⟩
end PS
