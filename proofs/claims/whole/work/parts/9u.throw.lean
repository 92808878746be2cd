-- ===== throw =====
/-- the innermost catch that waits for this tag -/
noncomputable def fct (t : Va) : List Fr → Option (Nat × List Fr)
  | [] => none
  | (op, _, _, st, _, q, vs) :: K => @ite _ (op = 7 ∧ st = 1 ∧ vs = [t]) (Classical.propDecidable _) (some (q, K)) (fct t K)
theorem fct_y {t : Va} {op i st e q : Nat} {rest : List Nat} {vs : List Va} {K : List Fr} (h : op = 7 ∧ st = 1 ∧ vs = [t]) : fct t ((op, i, rest, st, e, q, vs) :: K) = some (q, K) := @if_pos _ (Classical.propDecidable _) h _ _ _
theorem fct_n {t : Va} {op i st e q : Nat} {rest : List Nat} {vs : List Va} {K : List Fr} (h : ¬ (op = 7 ∧ st = 1 ∧ vs = [t])) : fct t ((op, i, rest, st, e, q, vs) :: K) = fct t K := @if_neg _ (Classical.propDecidable _) h _ _ _
theorem allv_app : ∀ (F K : List Fr), allv (F ++ K) = allv F ++ allv K
  | [], _ => rfl
  | (_, _, _, _, _, _, vs) :: F, K => by
    show vs ++ allv (F ++ K) = (vs ++ allv F) ++ allv K
    rw [allv_app F K, List.append_assoc]
theorem FrM_app {g : St} : ∀ (F K : List Fr), FrM g (F ++ K) → FrM g K
  | [], _, h => h
  | (_, _, _, _, _, _, _) :: F, K, h => FrM_app F K h.2.2.2.2.2.2
section TC
variable {x : Cx} {G0 G : SG} {N : Nat} {φ : Nat → Nat} {b lo hi : Nat} {sv : Nat → Option Va} {rc : Nat → Va × Va} {hp : Nat → Option Ob} {out : List Nat} {inp : List Int} {cn : Nat → Int32} {LV LC LK : List Gw} {p n i : Nat} {post : Int32 → SG → Prop}
theorem drop_app {L0 L1 : List Gw} : (List.map (gw φ) (L0 ++ L1)).drop ((List.map (gw φ) (L0 ++ L1)).length - L1.length) = L1.map (gw φ) := by
  rw [List.length_map, List.length_append, show L0.length + L1.length - L1.length = L0.length by omega, List.map_append]
  have := List.drop_left (l₁ := L0.map (gw φ)) (l₂ := L1.map (gw φ))
  rw [List.length_map] at this
  exact this
theorem getD_app {L0 L1 : List Gw} {j : Nat} : (List.map (gw φ) (L0 ++ L1)).getD (L0.length + j) 0 = (L1.map (gw φ)).getD j 0 := by
  rw [List.map_append, List.getD_eq_getElem?_getD, List.getElem?_append_right (by rw [List.length_map]; omega), List.length_map, show L0.length + j - L0.length = j by omega, List.getD_eq_getElem?_getD]
/-- the frames of a fitting catch: what is fixed of them -/
theorem fct_Cn : ∀ (K : List Fr) (p0 d : Nat) (sc : List (List Nat)) {t : Va} {q1 : Nat} {K1 : List Fr}, Cn x hp K p0 d sc → fct t K = some (q1, K1) → K1.length < K.length ∧ (allv K1).length + 1 ≤ (allv K).length ∧ ncal K1 ≤ ncal K ∧ ∃ sc1, Cn x hp K1 q1 1 sc1
  | [], p0, d, sc, t, q1, K1, _, h => (by cases h)
  | (op, i, rest, st, e, q, vs) :: K, p0, d, sc, t, q1, K1, ⟨h1, h2, h3, h4, D, p1, h5, h6, h7, h8, h9, h10, h11⟩, h => by
    by_cases e1 : op = 7 ∧ st = 1 ∧ vs = [t]
    · rw [fct_y e1] at h
      cases h
      obtain ⟨rfl, rfl, rfl⟩ := e1
      refine ⟨by show K.length < K.length + 1; omega, ?_, ?_, sc, Cn_mono K q _ 1 sc (by omega) (h11 (by decide))⟩
      · show (allv K).length + 1 ≤ ([t] ++ allv K).length
        rw [List.length_append]; show _ ≤ 1 + _; omega
      · show ncal K ≤ 0 + ncal K
        omega
    · rw [fct_n e1] at h
      have hK : ∃ d1 sc1, Cn x hp K q d1 sc1 := by
        by_cases e1 : op = 33
        · obtain ⟨-, sc1, hK⟩ := h10 e1
          exact ⟨2, sc1, hK⟩
        · exact ⟨_, _, h11 e1⟩
      obtain ⟨d1, sc1, hK⟩ := hK
      obtain ⟨z1, z2, z3, z4⟩ := fct_Cn K q d1 sc1 hK h
      refine ⟨by show K1.length < K.length + 1; omega, ?_, ?_, z4⟩
      · show _ ≤ (vs ++ allv K).length
        rw [List.length_append]; omega
      · show _ ≤ (if op = 33 then 1 else 0) + ncal K
        omega
theorem c_thr28 {v t : Va} {R : SG → Prop} (hX : XC x G0 N) (hu : usum hp 168 ≤ x.z) (h : CG x G0 φ b lo hi sv rc hp out inp cn LV LC LK p G) (hlV : LV.length ≤ 1550) (hlC : LC.length ≤ 60) (hlK : LK.length ≤ 1488) (ht : VV x.K x.C hp t) : ∀ (K : List Fr) (p0 d : Nat) (sc : List (List Nat)) (V0 C0 L0 : List Gw) (n : Nat), Cn x hp K p0 d sc → LV = V0 ++ (cvl K).map gv → LC = C0 ++ ccl K → LK = L0 ++ cat K → (cvl K).length < 1550 → K.length < n → (fct t K = none → R (uo G 4 (us (G 4) 2 3))) → (∀ q1 K1, fct t K = some (q1, K1) → ∀ G1, CG x G0 φ b lo hi sv rc hp out inp cn (gv v :: (cvl K1).map gv) (ccl K1) (cat K1) q1 G1 → G1 4 0 3 = G 4 0 3 → R G1) → V_X7_throwValue_28 N R n (cw φ v) (cw φ t) (iI (((cat K).length : Int) - 4)) G
  | [], p0, d, sc, V0, C0, L0, n, hK, e1, e2, e3, hlc, hn, k0, k1 => by
    obtain ⟨n, rfl⟩ : ∃ n', n = n' + 1 := ⟨n - 1, by omega⟩
    unfold V_X7_throwValue_28
    refine ⟨fun _ => ?_, fun c => absurd (by decide) c⟩
    unfold V_X7_throwValue_50
    exact ⟨fun c => absurd c (by decide), fun _ => eqI (k0 rfl)⟩
  | (op, i, rest, st, e, q, vs) :: K, p0, d, sc, V0, C0, L0, n, ⟨h1, h2, h3, h4, D, p1, h5, h6, h7, h8, h9, h10, h11⟩, e1, e2, e3, hlc, hn, k0, k1 => by
    have hn : K.length + 1 < n := hn
    have htp := hX.1.2.2.2.2.2.2
    have hK : ∃ d1 sc1, Cn x hp K q d1 sc1 := by
      by_cases e1 : op = 33
      · obtain ⟨-, sc1, hK⟩ := h10 e1
        exact ⟨2, sc1, hK⟩
      · exact ⟨_, _, h11 e1⟩
    obtain ⟨d1, sc1, hK⟩ := hK
    obtain ⟨z1, z2, z3, z4, z5, z6⟩ := Cn_all K q d1 sc1 hK
    have e1b : LV = (V0 ++ (if op = 7 then [] else vs).map gv) ++ (cvl K).map gv := by
      rw [e1]
      show V0 ++ ((if op = 7 then [] else vs) ++ cvl K).map gv = _
      rw [List.map_append, List.append_assoc]
    have e2b : LC = (C0 ++ (if op = 33 then [gv (vnum (q : Int)), (some (Sum.inr e) : Gw)] else [])) ++ ccl K := by
      rw [e2, List.append_assoc]; rfl
    have hlc : (cvl K).length < 1550 := by
      have hlc : ((if op = 7 then [] else vs) ++ cvl K).length < 1550 := hlc
      rw [List.length_append] at hlc; omega
    have hcl : (ccl K).length ≤ 60 := by
      have hq := hlC
      rw [e2b, List.length_append] at hq; omega
    clear e1 e2
    by_cases ec : op = 7 ∧ st = 1
    · obtain ⟨rfl, rfl⟩ := ec
      obtain ⟨t0, rfl⟩ : ∃ t0, vs = [t0] := by
        obtain ⟨p2, -, -, h9⟩ := h9
        rcases h9 with ⟨c, -⟩ | ⟨-, h9, -⟩
        · cases c
        · exact h9
      have ek : cat ((7, i, rest, 1, e, q, [t0]) :: K) = [gv (vnum (q : Int)), gv (vnum ((2 * ncal K : Nat) : Int)), gv (vnum ((cvl K).length : Int)), gv t0] ++ cat K := rfl
      rw [ek] at e3 ⊢
      have hlk : L0.length + (cat K).length + 4 ≤ 1488 := by
        rw [e3, List.length_append, List.length_append] at hlK
        have hlK : L0.length + (4 + (cat K).length) ≤ 1488 := hlK
        omega
      have hl0 : (LK.map (gw φ)).length = L0.length + (cat K).length + 4 := by
        rw [e3, List.length_map, List.length_append, List.length_append]
        show L0.length + (4 + (cat K).length) = _
        omega
      have at3 : ∀ j, j < 4 → (LK.map (gw φ)).getD ((LK.map (gw φ)).length - 1 - ((cat K).length + j)) 0 = ([gw φ (gv t0), gw φ (gv (vnum ((cvl K).length : Int))), gw φ (gv (vnum ((2 * ncal K : Nat) : Int))), gw φ (gv (vnum (q : Int)))] : List Int32).getD j 0 := by
        intro j hj
        rw [hl0, show L0.length + (cat K).length + 4 - 1 - ((cat K).length + j) = L0.length + (3 - j) by omega, e3, getD_app]
        have hcs : j = 0 ∨ j = 1 ∨ j = 2 ∨ j = 3 := by omega
        rcases hcs with rfl | rfl | rfl | rfl <;> rfl
      have ex : iI ((([gv (vnum (q : Int)), gv (vnum ((2 * ncal K : Nat) : Int)), gv (vnum ((cvl K).length : Int)), gv t0] ++ cat K).length : Int) - 4) = nI (cat K).length := by
        rw [← iI_nat]
        congr 1
        rw [List.length_append]
        show ((4 + (cat K).length : Nat) : Int) - 4 = _
        omega
      rw [ex]
      obtain ⟨n, rfl⟩ : ∃ n', n = n' + 1 := ⟨n - 1, by omega⟩
      have ht0 : VV x.K x.C hp t0 := h1 t0 (by simp)
      have ge : 11 = 11 := rfl
      unfold V_X7_throwValue_28
      refine ⟨fun c => absurd c (nI_pos (by omega)), fun _ => v_at (b := (cat K).length) h.2.2.2.1 (by rw [hl0]; omega) (by rw [hl0]; omega) (by decide) (eqI ?_)⟩
      have at0 := at3 0 (by decide)
      rw [Nat.add_zero] at at0
      rw [at0, show uo G 11 (G 11) = G from uo_id rfl]
      have esm : (([gw φ (gv t0), gw φ (gv (vnum ((cvl K).length : Int))), gw φ (gv (vnum ((2 * ncal K : Nat) : Int))), gw φ (gv (vnum (q : Int)))] : List Int32).getD 0 0 = cw φ t) ↔ t0 = t := same_cw hX hu h ht0 ht
      refine ⟨fun c => ?_, fun c => eqI ?_⟩
      · have c := esm.mp c
        subst c
        have k1 := k1 q K (fct_y ⟨rfl, rfl, rfl⟩)
        unfold V_X7_throwValue_50
        refine ⟨fun _ => ?_, fun c => absurd (nI_le (a := 0) (Nat.zero_le _) (by omega)) c⟩
        rw [show (1 : Int32) = nI 1 from rfl, nI_add]
        refine v_at (b := (cat K).length + 1) h.2.2.2.1 (by rw [hl0]; omega) (by rw [hl0]; omega) (by decide) (eqI ?_)
        rw [at3 1 (by decide), show uo G 11 (G 11) = G from uo_id rfl]
        refine v_held (t := 2) (h := ((cvl K).length : Int)) (by decide) (by omega) (by omega) ?_
        rw [iI_nat]
        refine v_cut h.2.1 (by rw [e1b, List.length_map, List.length_append, List.length_map]; omega) (by rw [List.length_map]; omega) (fun u9 hu9 => eqI ?_)
        have hu9 : StkR u9 (((cvl K).map gv).map (gw φ)) := by
          rw [e1b] at hu9
          have := drop_app (φ := φ) (L0 := V0 ++ (if 7 = 7 then [] else [t0]).map gv) (L1 := (cvl K).map gv)
          rw [show ((cvl K).map gv).length = (cvl K).length from List.length_map _] at this
          rw [this] at hu9
          exact hu9
        have h9 := CG9 (LV1 := (cvl K).map gv) h hu9
        rw [show (2 : Int32) = nI 2 from rfl, nI_add]
        refine v_at (b := (cat K).length + 2) (g := G 11) h.2.2.2.1 (by rw [hl0]; omega) (by rw [hl0]; omega) (by decide) (eqI ?_)
        rw [at3 2 (by decide), show uo (uo G 9 u9) 11 (G 11) = uo G 9 u9 from uo_id rfl]
        refine v_held (t := 2) (h := ((2 * ncal K : Nat) : Int)) (by decide) (by omega) (by omega) ?_
        rw [iI_nat, ← z5]
        refine v_cut (g := G 10) h.2.2.1 (by rw [e2b, List.length_map, List.length_append]; omega) (by rw [List.length_map]; omega) (fun u10 hu10 => eqI ?_)
        have hu10 : StkR u10 ((ccl K).map (gw φ)) := by
          rw [e2b] at hu10
          rw [drop_app (φ := φ) (L0 := C0 ++ _) (L1 := ccl K)] at hu10
          exact hu10
        have h10 := CG10 (LC1 := ccl K) h9 hu10
        rw [show (3 : Int32) = nI 3 from rfl, nI_add]
        refine v_at (b := (cat K).length + 3) (g := G 11) h.2.2.2.1 (by rw [hl0]; omega) (by rw [hl0]; omega) (by decide) (eqI ?_)
        rw [at3 3 (by decide), show uo (uo (uo G 9 u9) 10 u10) 11 (G 11) = uo (uo G 9 u9) 10 u10 from uo_id rfl]
        refine v_held (t := 2) (h := (q : Int)) (by decide) (by omega) (by omega) (eqI ?_)
        rw [iI_nat]
        have h12 := CGpc (p1 := q) h10
        refine v_cut (g := G 11) h.2.2.2.1 (by rw [hl0]; omega) (by rw [List.length_map]; omega) (fun u11 hu11 => eqI ?_)
        have hu11 : StkR u11 ((cat K).map (gw φ)) := by
          rw [e3, ← List.append_assoc] at hu11
          rw [drop_app (φ := φ) (L0 := L0 ++ _) (L1 := cat K)] at hu11
          exact hu11
        have h13 := CG11 (LK1 := cat K) h12 hu11
        refine v_push h13.2.1 (by rw [List.length_map, List.length_map]; exact hlc) (by decide) (fun u hu2 => eqI (k1 _ (CG9 (LV1 := gv v :: (cvl K).map gv) h13 hu2) ?_))
        rfl
      · have hne : ¬ t0 = t := fun c2 => c (esm.mpr c2)
        have ef : fct t ((7, i, rest, 1, e, q, [t0]) :: K) = fct t K := fct_n (fun c2 => hne (by have := c2.2.2; simpa using this))
        rw [ef] at k0 k1
        have ex2 : nI (cat K).length + -4 = iI (((cat K).length : Int) - 4) := by
          rw [← iI_nat, show (-4 : Int32) = iI (-4) from rfl, iI_add]; rfl
        rw [ex2]
        exact c_thr28 hX hu h hlV hlC hlK ht K q d1 sc1 _ _ (L0 ++ [gv (vnum (q : Int)), gv (vnum ((2 * ncal K : Nat) : Int)), gv (vnum ((cvl K).length : Int)), gv t0]) n hK e1b e2b (by rw [e3, List.append_assoc]) hlc (by omega) k0 k1
    · have ek : cat ((op, i, rest, st, e, q, vs) :: K) = cat K := by
        show (if op = 7 ∧ st = 1 then gv (vnum (q : Int)) :: gv (vnum ((2 * ncal K : Nat) : Int)) :: gv (vnum ((cvl K).length : Int)) :: vs.map (fun v => gv v) else []) ++ cat K = _
        rw [if_neg ec]; rfl
      have ef : fct t ((op, i, rest, st, e, q, vs) :: K) = fct t K := fct_n (fun c2 => ec ⟨c2.1, c2.2.1⟩)
      rw [ef] at k0 k1
      rw [ek] at e3 ⊢
      exact c_thr28 hX hu h hlV hlC hlK ht K q d1 sc1 _ _ L0 n hK e1b e2b e3 hlc (by omega) k0 k1
end TC
section TM
variable {x : Cx} {cv cf : Int32} {sv : Nat → Option Va} {rc : Nat → Va × Va} {hp : Nat → Option Ob} {out : List Nat} {inp : List Int} {cn : Nat → Int32}
theorem r_cast70 {k : StL} {v : Va} {f : Fr} {K : List Fr} {post : St → StL → Prop} (hf : f.1 ≤ 33) (kk : ∀ g1, MW x cv cf sv rc hp out inp cn g1 k → MK K g1 → g1 0 16 = enc v → g1 0 17 = 1 → post g1 k) : ∀ (F : List Fr) (g : St) (n : Nat), (∀ f ∈ F, f.1 ≤ 33) → MW x cv cf sv rc hp out inp cn g k → MK (F ++ f :: K) g → F.length + K.length + 1 < 1002 → F.length < n → V_X12_cast_70 post n (enc v) (nI K.length) g k
  | [], g, n, hF, hM, hK, hl, hn => by
    obtain ⟨n, rfl⟩ : ∃ n', n = n' + 1 := ⟨n - 1, by omega⟩
    obtain ⟨op, i, rest, st, e, q, vs⟩ := f
    have e12 : g 0 12 = nI (K.length + 1) := hK.1
    have hl : 0 + K.length + 1 < 1002 := hl
    unfold V_X12_cast_70
    rw [e12, nI_1]
    exact ⟨fun _ => r_pop hM hK (by omega) hf (fun g1 a1 a2 a3 a4 _ => kk g1 a1 a2 a3 a4), fun c => absurd (Int32.le_refl _) c⟩
  | (op, i, rest, st, e, q, vs) :: F, g, n, hF, hM, hK, hl, hn => by
    obtain ⟨n, rfl⟩ : ∃ n', n = n' + 1 := ⟨n - 1, by omega⟩
    have e12 : g 0 12 = nI ((F ++ f :: K).length + 1) := hK.1
    have hn : F.length + 1 < n + 1 := hn
    have hl : F.length + 1 + K.length + 1 < 1002 := hl
    have hll : (F ++ f :: K).length = F.length + (K.length + 1) := by rw [List.length_append]; rfl
    unfold V_X12_cast_70
    rw [e12, nI_1]
    refine ⟨fun c => absurd ((nI_leI (by omega) (by omega)).mp c) (by omega), fun _ => ?_⟩
    exact r_pop (K := F ++ f :: K) hM hK (by rw [hll]; omega) (hF _ List.mem_cons_self) (fun g1 a1 a2 a3 a4 _ => r_cast70 hf kk F g1 n (fun f hf => hF f (List.mem_cons_of_mem _ hf)) a1 a2 (by omega) (by omega))
theorem r_cast24 {g : St} {k : StL} {v t : Va} {Kf : List Fr} {post : St → StL → Prop} (hk : Kfun x) (hM : MW x cv cf sv rc hp out inp cn g k) (hK : MK Kf g) (ht : VV x.K x.C hp t) (hall : ∀ w ∈ allv Kf, VV x.K x.C hp w) (hop : ∀ f ∈ Kf, f.1 ≤ 33) (hl : Kf.length < 1002) (hl2 : (allv Kf).length < 1100) (hst : ∀ f ∈ Kf, f.1 = 7 → f.2.2.2.1 ≤ 1 ∧ (f.2.2.2.1 = 1 → ∃ t0, f.2.2.2.2.2.2 = [t0])) : ∀ (K F : List Fr) (n : Nat), Kf = F ++ K → Kf.length + K.length + 2 < n → (fct t K = none → post (us g 18 3) k) → (∀ q1 K1, fct t K = some (q1, K1) → ∀ g1, MW x cv cf sv rc hp out inp cn g1 k → MK K1 g1 → g1 0 16 = enc v → g1 0 17 = 1 → post g1 k) → V_X12_cast_24 post n (enc t) (enc v) (iI ((K.length : Int) - 1)) g k
  | [], F, n, eK, hn, k0, k1 => by
    obtain ⟨n, rfl⟩ : ∃ n', n = n' + 1 := ⟨n - 1, by omega⟩
    unfold V_X12_cast_24
    exact ⟨fun _ => eqI (k0 rfl), fun c => absurd (by decide) c⟩
  | (op, i, rest, st, e, q, vs) :: K, F, n, eK, hn, k0, k1 => by
    obtain ⟨n, rfl⟩ : ∃ n', n = n' + 1 := ⟨n - 1, by omega⟩
    have hn : Kf.length + (K.length + 1) + 2 < n + 1 := hn
    have hlK : F.length + (K.length + 1) < 1002 := by
      rw [eK, List.length_append] at hl; exact hl
    have hFr := FrM_app F _ (by have := hK.2.2.2.1; rw [eK] at this; exact this)
    obtain ⟨a1, a2, a3, a4, a5, a6, a7⟩ := hFr
    have hVl : VlM g (vs ++ allv K) := by
      have := hK.2.2.2.2.1
      rw [eK, allv_app] at this
      exact VlM_tl this
    have hmem : (op, i, rest, st, e, q, vs) ∈ Kf := by rw [eK]; simp
    have hop1 : op ≤ 33 := hop _ hmem
    have ex : iI (((((op, i, rest, st, e, q, vs) :: K).length : Nat) : Int) - 1) = nI K.length := by
      rw [← iI_nat]
      congr 1
      show ((K.length + 1 : Nat) : Int) - 1 = _
      omega
    have exn : nI K.length + -1 = iI ((K.length : Int) - 1) := by
      rw [← iI_nat, show (-1 : Int32) = iI (-1) from rfl, iI_add]; rfl
    have eK2 : Kf = (F ++ [(op, i, rest, st, e, q, vs)]) ++ K := by rw [eK, List.append_assoc]; rfl
    have ec : (nI K.length).toNatClampNeg = K.length := nI_clamp (by omega)
    have vi : vp_in (nI K.length) 1002 := vp_in_nI (by omega) (by decide)
    have h6 : nI (opR op) = 6 ↔ op = 7 := by
      unfold opR
      split
      · rename_i c
        subst c
        exact ⟨fun c => absurd c (by decide), fun c => absurd c (by decide)⟩
      · rename_i c
        exact ⟨fun c2 => by have := (nI_eq (b := 6) (by omega) (by decide)).mp c2; omega, fun c2 => by rw [c2]; rfl⟩
    rw [ex]
    unfold V_X12_cast_24
    rw [ec, a1, a4, a6, exn]
    refine ⟨fun c => absurd c (nI_pos (by omega)), fun _ => ⟨vi, fun c => ?_, fun c => ⟨vi, fun c2 => ?_, fun c2 => ⟨vi, ?_⟩⟩⟩⟩
    · have ef : fct t ((op, i, rest, st, e, q, vs) :: K) = fct t K := fct_n (fun c2 => c (h6.mpr c2.1))
      rw [ef] at k0 k1
      exact eqI (r_cast24 hk hM hK ht hall hop hl hl2 hst K _ n eK2 (by omega) k0 k1)
    · have e7 := h6.mp c
      have hs1 := (hst _ hmem e7).1
      have hs1 : st ≤ 1 := hs1
      have es : st = 0 := (nI_eq (b := 0) (by omega) (by decide)).mp c2
      have ef : fct t ((op, i, rest, st, e, q, vs) :: K) = fct t K := fct_n (fun c2 => by omega)
      rw [ef] at k0 k1
      exact eqI (r_cast24 hk hM hK ht hall hop hl hl2 hst K _ n eK2 (by omega) k0 k1)
    · have e7 := h6.mp c
      obtain ⟨hs1, hs2⟩ := hst _ hmem e7
      have hs1 : st ≤ 1 := hs1
      have es : st = 1 := by
        have : st ≠ 0 := fun c3 => c2 (by rw [c3]; rfl)
        omega
      obtain ⟨t0, et⟩ := hs2 es
      have et : vs = [t0] := et
      subst e7 es et
      have ht0 : VV x.K x.C hp t0 := hall t0 (by rw [eK, allv_app]; exact List.mem_append.mpr (Or.inr (by show t0 ∈ [t0] ++ allv K; simp)))
      have hlv : (allv K).length < 1100 := by
        rw [eK, allv_app, List.length_append] at hl2
        have hl2 : (allv F).length + ([t0] ++ allv K).length < 1100 := hl2
        rw [List.length_append] at hl2; omega
      have e21 : g 21 (allv K).length = enc t0 := VlM_top hVl
      rw [nI_clamp (by omega), e21]
      refine ⟨vp_in_nI (by omega) (by decide), fun c3 => ?_, fun c3 => ?_⟩
      · have c4 := (same_enc hk ht0 ht).mp c3
        subst c4
        have k1 := k1 q K (fct_y ⟨rfl, rfl, rfl⟩)
        refine r_cast70 (f := (7, i, rest, 1, e, q, [t0])) (show 7 ≤ 33 by decide) (fun g1 b1 b2 b3 b4 => k1 g1 b1 b2 b3 b4) F g n (fun f hf => hop f (by rw [eK]; simp [hf])) hM (by rw [← eK]; exact hK) (by omega) ?_
        rw [eK, List.length_append] at hn
        omega
      · have hne : ¬ t0 = t := fun c4 => c3 (by rw [c4])
        have ef : fct t ((7, i, rest, 1, e, q, [t0]) :: K) = fct t K := fct_n (fun c2 => hne (by have := c2.2.2; simpa using this))
        rw [ef] at k0 k1
        exact eqI (r_cast24 hk hM hK ht hall hop hl hl2 hst K _ n eK2 (by omega) k0 k1)
end TM
section TS
variable {x : Cx} {G0 : SG} {N : Nat} {cv cf : Int32} {sv : Nat → Option Va} {rc : Nat → Va × Va} {hp : Nat → Option Ob} {out : List Nat} {inp : List Int} {cn : Nat → Int32}
theorem Cn_st7 : ∀ (K : List Fr) (p0 d : Nat) (sc : List (List Nat)), Cn x hp K p0 d sc → ∀ f ∈ K, f.1 = 7 → f.2.2.2.1 ≤ 1 ∧ (f.2.2.2.1 = 1 → ∃ t0, f.2.2.2.2.2.2 = [t0])
  | [], p0, d, sc, _, f, hf, _ => (by cases hf)
  | (op, i, rest, st, e, q, vs) :: K, p0, d, sc, ⟨h1, h2, h3, h4, D, p1, h5, h6, h7, h8, h9, h10, h11⟩, f, hf, h => by
    have hK : ∃ d1 sc1, Cn x hp K q d1 sc1 := by
      by_cases e1 : op = 33
      · obtain ⟨-, sc1, hK⟩ := h10 e1
        exact ⟨2, sc1, hK⟩
      · exact ⟨_, _, h11 e1⟩
    obtain ⟨d1, sc1, hK⟩ := hK
    rcases List.mem_cons.mp hf with e1 | e1
    · subst e1
      have h : op = 7 := h
      subst h
      refine ⟨h3, fun es => ?_⟩
      have es : st = 1 := es
      subst es
      obtain ⟨p2, -, -, h9⟩ := h9
      rcases h9 with ⟨c, -⟩ | ⟨-, h9, -⟩
      · cases c
      · exact h9
    · exact Cn_st7 K q d1 sc1 hK f e1 h
theorem s_throw {K : List Fr} {i st e q p : Nat} {vs : List Va} {v : Va} (hX : XC x G0 N) (hKf : Kfun x) (h : PA x ((1, p, v), (8, i, [], st, e, q, vs) :: K, sv, rc, hp, out, inp, cn)) : Stq x G0 N cv cf ((1, p, v), (8, i, [], st, e, q, vs) :: K, sv, rc, hp, out, inp, cn) := by
  obtain ⟨hW, hCt, hv, ⟨sc0, hK0⟩, D, p1, sc, h1, h2, h3, h4, h5, h6, h7, h8, hF, h10, h11⟩ := rtF h
  obtain ⟨st0, es0, hst0, ecl, hn⟩ := CtK_lim hCt
  obtain ⟨l1, l2, l3, l4⟩ := Cn_LB hK0 (Nat.le_refl _) hn
  have l1 : K.length + 1 ≤ 372 := l1
  have hK := h11 (by decide)
  have htp := hX.1.2.2.2.2.2.2
  have hnc : ncal K ≤ 30 := by
    have hn : 0 + ncal K ≤ 30 := hn
    omega
  obtain ⟨z1, z2, z3, z4, z5, -⟩ := Cn_all K q _ sc hK
  have hu := hW.2.2.2.2.2.2.1
  obtain ⟨f3, pe, hL, c1, eq⟩ := hF
  have ep : p1 = pe := hL
  subst ep
  obtain ⟨t, rfl⟩ : ∃ t, vs = [t] := by
    have f3 : vs.length = 1 := f3
    exact List.length_eq_one_iff.mp f3
  have ht : VV x.K x.C hp t := h1 t (by simp)
  obtain ⟨st9, dp, d1, d2, d3, d4, d5, d6⟩ := id hCt
  have d5 : ([t] ++ allv K).length + 1 ≤ st9 := d5
  rw [List.length_append] at d5
  have d5 : 1 + (allv K).length + 1 ≤ st9 := d5
  have d6 : 0 + ncal K ≤ dp := d6
  obtain ⟨w1, w2, w3⟩ := cvl_full (op := 8) (K := K) (i := i) (st := st) (e := e) (q := q) (vv := [t]) (by decide) (by decide)
  have cls0 : ∀ (G : SG) (post : Int32 → SG → Prop) (n i2 : Nat), CR x G0 ((1, p, v), (8, i, [], st, e, q, [t]) :: K, sv, rc, hp, out, inp, cn) G → 20000 ≤ n → i2 + 40 ≤ 1000000 → (fct t K = none → ∀ φ b lo hi G1 n1 i1, CE x G0 φ b lo hi sv rc hp out inp cn 3 G1 → n ≤ n1 + 13 → i1 ≤ i2 + 13 → V_X7_run_32 N post n1 (nI i1) G1) → (∀ q1 K1, fct t K = some (q1, K1) → ∀ φ b lo hi G1 n1 i1, CG x G0 φ b lo hi sv rc hp out inp cn (gv v :: (cvl K1).map gv) (ccl K1) (cat K1) q1 G1 → n ≤ n1 + 13 → i1 ≤ i2 + 13 → V_X7_run_32 N post n1 (nI i1) G1) → V_X7_run_32 N post n (nI i2) G := by
    intro G post n i2 hG hn2 hi2 k0 k1
    obtain ⟨φ, b, lo, hi, hG⟩ := hG
    rw [w1, w2, w3] at hG
    obtain ⟨n, rfl⟩ : ∃ n', n = n' + 12 := ⟨n - 12, by omega⟩
    refine i_chain 12 p p1 n i2 G hX h7 hG (by omega) (fun G1 m i3 g1 b1 b2 => ?_)
    obtain ⟨m, rfl⟩ : ∃ n', m = n' + 1 := ⟨m - 1, by omega⟩
    refine c_loop (by omega) g1.2.2.2.2.2.1 g1.2.2.2.2.2.2 ?_
    have ha := CGwt (w := 0) g1
    unfold V_X7_advance
    refine v_opd hX ha (by omega) (fun G2 h2 w9 o9 => ?_)
    rw [c1]
    refine ⟨fun c => absurd c (by decide), fun c => absurd c (by decide), fun c => absurd c (by decide), fun c => absurd c (by decide), fun c => absurd c (by decide), fun c => absurd c (by decide), fun c => absurd c (by decide), fun c => absurd c (by decide), fun c => absurd c (by decide), fun c => absurd c (by decide), fun c => absurd c (by decide), fun c => absurd c (by decide), fun c => absurd c (by decide), fun _ => ?_, fun c => absurd c (by decide), fun c1 c2 c3 c4 c5 c6 c7 c8 c9 c10 c11 c12 c13 c14 c15 => absurd rfl c14⟩
    unfold V_X7_advanceControl
    refine ⟨fun c => absurd c (by decide), fun c => absurd c (by decide), fun c => absurd c (by decide), fun c => absurd c (by decide), fun _ => ?_, fun c => absurd c (by decide), fun c => absurd c (by decide), fun c10 c11 c12 c13 c14 c15 c16 => absurd rfl c14⟩
    have hlv : (gv v :: gv t :: (cvl K).map gv).length ≤ 1550 := by
      show ((cvl K).map gv).length + 1 + 1 ≤ 1550
      rw [List.length_map]; omega
    have h2 : CG x G0 φ b lo hi sv rc hp out inp cn (gv v :: gv t :: (cvl K).map gv) (ccl K) (cat K) (p1 + 1) G2 := h2
    unfold V_X7_throwValue
    refine v_peek (b := 0) h2.2.1 (by simp) (by rw [List.length_map]; exact hlv) (by decide) (eqI ?_)
    rw [show uo G2 9 (G2 9) = G2 from uo_id rfl]
    refine v_peek (b := 1) h2.2.1 (by simp) (by rw [List.length_map]; exact hlv) (by decide) (eqI (eqI ?_))
    rw [show uo G2 9 (G2 9) = G2 from uo_id rfl]
    have e11 : G2 11 0 0 - 4 = iI (((cat K).length : Int) - 4) := by
      have := h2.2.2.2.1.1
      rw [List.length_map] at this
      rw [this, ← iI_nat, show (4 : Int32) = iI 4 from rfl, iI_sub]
    rw [e11]
    refine c_thr28 (v := v) (t := t) hX hu h2 hlv (by omega) (by omega) ht K q _ sc [gv v, gv t] [] [] m hK rfl rfl rfl (by omega) (by omega) (fun hf => ?_) (fun q1 K1 hf G3 g3 w3 => ?_)
    · exact af0 (w9) (k0 hf φ b lo hi _ m (i3 + 1) (CGflt (e := 3) h2 ⟨hlv, by omega, by omega⟩) (by omega) (by omega))
    · exact af0 (w3.trans w9) (k1 q1 K1 hf φ b lo hi G3 m (i3 + 1) g3 (by omega) (by omega))
  have ref0 : ∀ (g : St) (k : StL) (post : Int32 → St → StL → Prop) (n : Nat), MR x cv cf ((1, p, v), (8, i, [], st, e, q, [t]) :: K, sv, rc, hp, out, inp, cn) g k → 20000 ≤ n → (fct t K = none → ∀ g1, MW x cv cf sv rc hp out inp cn g1 k → g1 0 18 = 3 → V_X12_run_69 post n g1 k) → (∀ q1 K1, fct t K = some (q1, K1) → ∀ g1, MW x cv cf sv rc hp out inp cn g1 k → MK K1 g1 → g1 0 16 = enc v → g1 0 17 = 1 → V_X12_run_69 post n g1 k) → V_X12_run_69 post (n + 1) g k := by
    intro g k post n hR hn2 k0 k1
    obtain ⟨hM, hK2, h16, h17⟩ := hR
    refine r_run1 hK2.2.2.2.2.2 h17 hK2.1 (by omega) (r_res hK2 (by omega) (fun y hy => (by cases hy)) (r_arg (Or.inr (Or.inl rfl)) hM hK2 h16 h17 (by rw [List.length_append]; show 1 + (allv K).length < 1100; omega) (fun g1 m1 m2 m3 => ⟨fun c => absurd rfl c, fun _ => ?_⟩)))
    have t1 := top1 m2.1
    have ec : (nI K.length).toNatClampNeg = K.length := nI_clamp (by omega)
    have e20 : g1 20 K.length = nI (allv K).length := m2.2.2.2.1.2.2.2.2.2.1
    obtain ⟨x1, x2⟩ := vl_2 (l := allv K) m2.2.2.2.2.1
    unfold V_X12_apply
    rw [t1, ec, e20]
    refine ⟨vp_in_nI (by omega) (by decide), eqI ⟨fun _ => ⟨fun c => absurd rfl c, fun _ => ?_⟩, fun c => absurd c (by decide)⟩⟩
    unfold V_X12_cast
    rw [nI_clamp (by omega), x1, nI_1, nI_clamp (by omega), x2, t1]
    refine ⟨vp_in_nI (by omega) (by decide), eqI ⟨vp_in_nI (by omega) (by decide), eqI (eqI ?_)⟩⟩
    have e6 : nI K.length = iI (((((8, i, ([] : List Nat), st, e, q, [v, t]) :: K).length : Nat) : Int) - 1) := by
      rw [← iI_nat]
      congr 1
      show _ = ((K.length + 1 : Nat) : Int) - 1
      omega
    rw [e6]
    have ef : fct t ((8, i, [], st, e, q, [v, t]) :: K) = fct t K := fct_n (fun c2 => absurd c2.1 (by decide))
    refine r_cast24 (v := v) (t := t) (Kf := (8, i, [], st, e, q, [v, t]) :: K) hKf m1 m2 ht (fun w hw => ?_) (fun f hf => ?_) (by show K.length + 1 < 1002; omega) (by show ([v, t] ++ allv K).length < 1100; rw [List.length_append]; show 2 + (allv K).length < 1100; omega) (fun f hf h7 => ?_) ((8, i, [], st, e, q, [v, t]) :: K) [] n rfl (by show K.length + 1 + (K.length + 1) + 2 < n; omega) (fun hf => ?_) (fun q1 K1 hf g3 a1 a2 a3 a4 => ?_)
    · rcases List.mem_append.mp hw with e1 | e1
      · rcases List.mem_cons.mp e1 with e1 | e1
        · rw [e1]; exact hv
        · rw [List.mem_singleton.mp e1]; exact ht
      · exact z1 w e1
    · rcases List.mem_cons.mp hf with e1 | e1
      · rw [e1]; show 8 ≤ 33; decide
      · exact Cn_op K q _ sc hK f e1
    · rcases List.mem_cons.mp hf with e1 | e1
      · rw [e1] at h7; exact absurd h7 (show ¬ 8 = 7 by decide)
      · exact Cn_st7 K q _ sc hK f e1 h7
    · rw [ef] at hf
      exact k0 hf _ (MW_us m1 (by decide) (by decide) (by decide)) rfl
    · rw [ef] at hf
      exact k1 q1 K1 hf g3 a1 a2 a3 a4
  cases hf : fct t K with
  | none =>
    refine ⟨((5, 0, none), [], sv, rc, hp, out, inp, cn), ⟨hW, by decide, by decide⟩, ?_, ?_, ?_⟩
    · show 0 < _ + (K.length + 1) + 2
      omega
    · intro G post n i2 hG hn2 hi2 kk
      exact cls0 G post n i2 hG hn2 hi2 (fun _ φ b lo hi G1 n1 i1 h1 b1 b2 => kk G1 n1 i1 ⟨φ, b, lo, hi, h1⟩ (by omega) (by omega)) (fun q1 K1 c => by rw [hf] at c; cases c)
    · intro g k post n hR2 hn2 kk
      exact ref0 g k post n hR2 hn2 (fun _ g1 a1 a2 => kk g1 k ⟨a1, a2⟩) (fun q1 K1 c => by rw [hf] at c; cases c)
  | some qk =>
    obtain ⟨q1, K1⟩ := qk
    obtain ⟨y1, y2, y3, sc1, y4⟩ := fct_Cn K q _ sc hK hf
    refine ⟨((1, q1, v), K1, sv, rc, hp, out, inp, cn), ⟨hW, ⟨st9, dp, d1, d2, d3, d4, by omega, by omega⟩, hv, sc1, y4⟩, ?_, ?_, ?_⟩
    · show 3 * (1001 - (cn 2).toNatClampNeg) + K1.length + 2 < 3 * (1001 - (cn 2).toNatClampNeg) + (K.length + 1) + 2
      omega
    · intro G post n i2 hG hn2 hi2 kk
      refine cls0 G post n i2 hG hn2 hi2 (fun c => by rw [hf] at c; cases c) (fun q2 K2 c φ b lo hi G1 n1 i1 h1 b1 b2 => ?_)
      rw [hf] at c; cases c
      exact kk G1 n1 i1 ⟨φ, b, lo, hi, h1⟩ (by omega) (by omega)
    · intro g k post n hR2 hn2 kk
      refine ref0 g k post n hR2 hn2 (fun c => by rw [hf] at c; cases c) (fun q2 K2 c g1 a1 a2 a3 a4 => ?_)
      rw [hf] at c; cases c
      exact kk g1 k ⟨a1, a2, a3, a4⟩
end TS
