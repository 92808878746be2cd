-- ===== cons, list, vec =====
section MC
variable {x : Cx} {G0 : SG} {N : Nat} {cv cf : Int32} {sv : Nat → Option Va} {rc : Nat → Va × Va} {hp : Nat → Option Ob} {out : List Nat} {inp : List Int} {cn : Nat → Int32}
theorem s_11 {K : List Fr} {i st e q p D p1 : Nat} {sc : List (List Nat)} {vs : List Va} {v : Va} (hX : XC x G0 N) (hF : OpF x sv rc hp out inp cn K 11 i st e q p D p1 sc (v :: vs)) : Stq x G0 N cv cf ((1, p, v), (11, i, [], st, e, q, vs) :: K, sv, rc, hp, out, inp, cn) := by
  obtain ⟨a, rfl⟩ := two_parts hF rfl rfl
  have hW := hF.1
  have hva : VV x.K x.C hp a := hF.2.2.2.1 a (by simp)
  have hvv : VV x.K x.C hp v := hF.2.2.2.1 v (by simp)
  have hu := hF.1.2.2.2.2.2.2.1
  have l2 := hF.2.2.2.2.2.2.2.2.2.2.2.2.2.2.2.2.2.1
  have ll : ([] ++ gv v :: gv a :: (cvl K).map gv).length ≤ 1550 := by
    show ((cvl K).map gv).length + 1 + 1 ≤ 1550
    rw [List.length_map]; omega
  have hbl : (allv K).length + 2 < 1100 := by
    have := hF.2.2.2.2.2.2.2.2.2.2.2.2.2.2.2.2.2.2.2.2.1
    have : (allv K).length + 2 ≤ 1000 := this
    omega
  have hk7 := va_kd_lt v
  have hk8 := va_kd_lt a
  obtain ⟨v1, v2, v3⟩ := cvl_full (op := 11) (K := K) (i := i) (st := st) (e := e) (q := q) (vv := [v, a]) (by decide) (by decide)
  have hGd := hF.2.2.2.2.2.2.2.2.2.2.2.2.2.2.2.2.2.2.2.2.2
  have hK := hF.2.2.2.2.2.2.2.2.2.2.2.2.2.2.2.1
  have hV : ∀ w ∈ [v, a], w ∈ allv ((11, i, [], st, e, q, [v, a]) :: K) := fun w hw => List.mem_append.mpr (Or.inl hw)
  refine s_opM (m := 2) (RefM := fun n g_9 k_10 R => ((¬ (10 : Int32) = (10 : Int32) → ∀ x_14 : Int32, x_14 = (1048576 : Int32) → ∀ x_15 : Int32, x_15 = ((1 : Int32) - (1 : Int32)) → V_X12_lists_106 R n (nI (allv K).length) x_14 x_15 g_9 k_10) ∧ ((10 : Int32) = (10 : Int32) → (vp_in (nI (allv K).length + (1 : Int32)) 1100 ∧ ∀ x_16 : Int32, x_16 = (g_9 21 (nI (allv K).length + (1 : Int32)).toNatClampNeg) → ∀ x_17 : Int32, x_17 = ((1 : Int32) - (1 : Int32)) → V_X12_lists_106 R n (nI (allv K).length) x_16 x_17 g_9 k_10)))) hX hF (by decide) (by decide) (fun hr => ?_) (fun φ b lo hi G n p2 R hG hw hr kk => ?_) (fun g k n R hM hKM kk => ⟨fun _ => ?_, fun c => absurd c (by decide), fun c => absurd c (by decide)⟩)
  · have hW1 := PW_rm (m := 2) hX.1 hW hGd
    have ha1 : VV x.K x.C (rmH x ((11, i, [], st, e, q, [v, a]) :: K) sv rc hp 2) a := VV_rm hva (hV a (by simp))
    have hv1 : VV x.K x.C (rmH x ((11, i, [], st, e, q, [v, a]) :: K) sv rc hp 2) v := VV_rm hvv (hV v (by simp))
    obtain ⟨hp2, w, hm, hW2, hw2, hC2⟩ := MkL_ok hX.1 [a] _ v hW1 hr (fun u hu => by rw [List.mem_singleton] at hu; rw [hu]; exact ha1) hv1
    refine ⟨hp2, w, hW2, hC2 _ _ _ _ (Cn_rm XK_tl hK), hw2, fun φ b lo hi cn1 G n p2 R hG hw hn kk => ?_, fun g k cn1 n R hM hKM hn kk => ?_⟩
    · obtain ⟨s, s1, s2, s3, rfl, rfl⟩ := hm
      refine c_ansM (L0 := []) (m := 2) hG.2.1 ll rfl ?_
      unfold AnsB
      refine ⟨by decide, vp_in_nI (n := 11) (by decide) (by decide), eqI ⟨fun c => absurd c (by decide), fun c => absurd c (by decide), fun _ => ?_, fun c => absurd c (by decide), fun c => absurd c (by decide), fun c => absurd c (by decide), fun c => absurd c (by decide), fun c => absurd c (by decide), fun c => absurd c (by decide), fun c => absurd c (by decide), fun c => absurd c (by decide), fun c => absurd c (by decide), fun c => absurd c (by decide), fun c => absurd c (by decide), fun c10 c11 c12 c13 c14 c15 c16 c17 c18 c19 c20 c21 c22 c23 => absurd rfl c12⟩⟩
      obtain ⟨n1, n2, n3⟩ := CG_N hX hG
      unfold V_X7_newCell
      refine c_roomY (m := 2) hX hG (by decide) hr ⟨fun _ => c_make (m := 2) hG (eqI (v_put (by omega) (by omega) (eqI ?_))), fun c => absurd c (by decide)⟩
      rw [nI_1]
      refine v_put (by omega) (by omega) (eqI ?_)
      rw [uo_uo, uo_uo, ← iI_nat (b + usum (rmH x ((11, i, [], st, e, q, [v, a]) :: K) sv rc hp 2) 168)]
      refine v_of (t := 4) (by decide) ?_
      rw [← cw_new (φ := φ) s (b + usum (rmH x ((11, i, [], st, e, q, [v, a]) :: K) sv rc hp 2) 168)]
      have hG' : CG x G0 φ b lo hi sv rc (rmH x ((11, i, [], st, e, q, [v, a]) :: K) sv rc hp 2) out inp cn1 ((cvl ((11, i, [], st, e, q, [v, a]) :: K)).map gv) (ccl ((11, i, [], st, e, q, [v, a]) :: K)) (cat ((11, i, [], st, e, q, [v, a]) :: K)) p2 G := by rw [v1, v2, v3]; exact hG
      have hC := c_mk1 (L1 := []) (R := fun _ _ => True) hX hW1 (Gd_rm hGd) hG' s1 s2 ha1 hv1
      rw [v1, v2, v3] at hC
      exact kk _ _ hC hw
    · refine ⟨fun c => absurd rfl c, fun _ => ?_⟩
      have hVl : VlM g ([v] ++ ([a] ++ allv K)) := hKM.2.2.2.2.1
      obtain ⟨e1, e2⟩ := vl_2 (l := allv K) hVl
      rw [nI_1, nI_clamp (by omega), e2]
      refine ⟨vp_in_nI (by omega) (by decide), eqI (eqI ?_)⟩
      rw [show (1 : Int32) - 1 = iI ((([a] : List Va).length : Int) - 1) by show (1 : Int32) - 1 = iI (((1 : Nat) : Int) - 1); decide +kernel]
      exact r_mkL [a] _ v hp2 w g k cn1 n hm hW1 hr (fun u hu => by rw [List.mem_singleton] at hu; rw [hu]; exact ha1) hv1 hM hKM (VlM_tl (vs := [v]) hVl) (by show (allv K).length + 1 < 1100; omega) (by show 300 + 1 ≤ n; omega) kk
  · refine c_ansM (L0 := []) (m := 2) hG.2.1 ll rfl ?_
    unfold AnsB
    refine ⟨by decide, vp_in_nI (n := 11) (by decide) (by decide), eqI ⟨fun c => absurd c (by decide), fun c => absurd c (by decide), fun _ => ?_, fun c => absurd c (by decide), fun c => absurd c (by decide), fun c => absurd c (by decide), fun c => absurd c (by decide), fun c => absurd c (by decide), fun c => absurd c (by decide), fun c => absurd c (by decide), fun c => absurd c (by decide), fun c => absurd c (by decide), fun c => absurd c (by decide), fun c => absurd c (by decide), fun c10 c11 c12 c13 c14 c15 c16 c17 c18 c19 c20 c21 c22 c23 => absurd rfl c12⟩⟩
    unfold V_X7_newCell
    exact c_roomN (m := 2) hX hG hu (by decide) hr (fun G1 g1 w1 => ⟨fun c => absurd rfl c, fun _ => kk _ G1 g1 w1⟩)
  · obtain ⟨e1, e2⟩ := vl_2 (l := allv K) hKM.2.2.2.2.1
    unfold V_X12_lists
    rw [nI_clamp (by omega), e1]
    refine ⟨vp_in_nI (by omega) (by decide), eqI (r_sort hva.ok ⟨fun _ => ⟨fun _ => ⟨fun c => absurd rfl c, fun _ => ?_⟩, fun c => absurd rfl c⟩, fun c => absurd c (by decide)⟩)⟩
    unfold V_X12_lists_63
    exact kk
theorem s_14 {K : List Fr} {i st e q p D p1 : Nat} {sc : List (List Nat)} {vs : List Va} {v : Va} (hX : XC x G0 N) (hF : OpF x sv rc hp out inp cn K 14 i st e q p D p1 sc (v :: vs)) : Stq x G0 N cv cf ((1, p, v), (14, i, [], st, e, q, vs) :: K, sv, rc, hp, out, inp, cn) := by
  obtain ⟨hW, hCt, hCt1, hVV, h9, h32, f1, f2, f3, h7, c1, c2, c3, eq, hq, hK, l1, l2, l3, l4, l5, hGd⟩ := id hF
  obtain ⟨v1, v2, v3⟩ := cvl_full (op := 14) (K := K) (i := i) (st := st) (e := e) (q := q) (vv := v :: vs) (by decide) (by decide)
  have f3 : vs.length + 1 ≤ 4 := f3
  have hu := hW.2.2.2.2.2.2.1
  have ll : ((v :: vs).map gv ++ (cvl K).map gv).length ≤ 1550 := by
    rw [List.length_append, List.length_map, List.length_map]
    show vs.length + 1 + (cvl K).length ≤ 1550
    omega
  have hl5 : (v :: vs).length + (allv K).length ≤ 1000 := by rw [List.length_append] at l5; exact l5
  have hV : ∀ w ∈ v :: vs, w ∈ allv ((14, i, [], st, e, q, v :: vs) :: K) := fun w hw => List.mem_append.mpr (Or.inl hw)
  have ans9 : ∀ (φ : Nat → Nat) (hp9 : Nat → Option Ob) (cn9 : Nat → Int32) (b lo hi : Nat) (G : SG) (n p2 : Nat) (R : Int32 → SG → Prop), CG x G0 φ b lo hi sv rc hp9 out inp cn9 ((v :: vs).map gv ++ (cvl K).map gv) (ccl K) (cat K) p2 G → V_X7_newList N n (nI (v :: vs).length) G (fun r g => R r g) → V_X7_answerOf N n 14 (nI (v :: vs).length) G R := fun φ hp9 cn9 b lo hi G n p2 R hG kk => by
    have tail : ∀ r1 r4, AnsB N n 14 (nI (v :: vs).length) r1 r4 G R := fun r1 r4 => by
      unfold AnsB
      exact ⟨by decide, vp_in_nI (n := 14) (by decide) (by decide), eqI ⟨fun c => absurd c (by decide), fun c => absurd c (by decide), fun c => absurd c (by decide), fun _ => kk, fun c => absurd c (by decide), fun c => absurd c (by decide), fun c => absurd c (by decide), fun c => absurd c (by decide), fun c => absurd c (by decide), fun c => absurd c (by decide), fun c => absurd c (by decide), fun c => absurd c (by decide), fun c => absurd c (by decide), fun c => absurd c (by decide), fun c10 c11 c12 c13 c14 c15 c16 c17 c18 c19 c20 c21 c22 c23 => absurd rfl c13⟩⟩
    cases vs with
    | nil => exact c_ans1 (y := gv v) (LV := (cvl K).map gv) hG.2.1 (by rw [List.length_map]; omega) (tail _ _)
    | cons a r =>
      have hsp : ∃ L0 z y, (v :: a :: r).map gv = L0 ++ [z, y] ∧ L0.length = r.length := by
        have hl : ∀ (r : List Va) (v a : Va), ∃ L0 z y, (v :: a :: r).map gv = L0 ++ [z, y] ∧ L0.length = r.length := by
          intro r
          induction r with
          | nil => intro v a; exact ⟨[], gv v, gv a, rfl, rfl⟩
          | cons c r ih =>
            intro v a
            obtain ⟨L0, z, y, e1, e2⟩ := ih a c
            exact ⟨gv v :: L0, z, y, by rw [List.map_cons, e1]; rfl, by simp [e2]⟩
        exact hl r v a
      obtain ⟨L0, z, y, e1, e2⟩ := hsp
      have hg := hG.2.1
      rw [e1, List.append_assoc] at hg
      rw [e1, List.append_assoc] at ll
      exact c_ansM (L0 := L0) (LV := (cvl K).map gv) (m := (v :: a :: r).length) hg ll (by show L0.length + 2 = r.length + 2; omega) (tail _ _)
  have e2l : (2 : Int32) * nI (v :: vs).length = nI (2 * (v :: vs).length) := by rw [show (2 : Int32) = nI 2 from rfl, nI_mul]
  refine s_opM (m := 2 * (v :: vs).length) (RefM := fun n g_9 k_10 R => ((¬ (13 : Int32) = (10 : Int32) → ∀ x_14 : Int32, x_14 = (1048576 : Int32) → ∀ x_15 : Int32, x_15 = (nI (v :: vs).length - (1 : Int32)) → V_X12_lists_106 R n (nI (allv K).length) x_14 x_15 g_9 k_10) ∧ ((13 : Int32) = (10 : Int32) → (vp_in (nI (allv K).length + (1 : Int32)) 1100 ∧ ∀ x_16 : Int32, x_16 = (g_9 21 (nI (allv K).length + (1 : Int32)).toNatClampNeg) → ∀ x_17 : Int32, x_17 = (nI (v :: vs).length - (1 : Int32)) → V_X12_lists_106 R n (nI (allv K).length) x_16 x_17 g_9 k_10)))) hX hF (by show 0 < 2 * (vs.length + 1); omega) (by show 2 * (vs.length + 1) ≤ 1000; omega) (fun hr => ?_) (fun φ b lo hi G n p2 R hG hw hr kk => ?_) (fun g k n R hM hKM kk => ⟨fun _ => ?_, fun c => absurd c (by decide), fun c => absurd c (by decide)⟩)
  · have hW1 := PW_rm (m := 2 * (v :: vs).length) hX.1 hW hGd
    have hV1 : ∀ w ∈ v :: vs, VV x.K x.C (rmH x ((14, i, [], st, e, q, v :: vs) :: K) sv rc hp (2 * (v :: vs).length)) w := fun w hw => VV_rm (hVV w hw) (hV w hw)
    obtain ⟨hp2, w, hm, hW2, hw2, hC2⟩ := MkL_ok hX.1 (v :: vs) _ vnil hW1 hr hV1 trivial
    refine ⟨hp2, w, hW2, hC2 _ _ _ _ (Cn_rm XK_tl hK), hw2, fun φ b lo hi cn1 G n p2 R hG hw hn kk => ?_, fun g k cn1 n R hM hKM hn kk => ?_⟩
    · refine ans9 φ _ _ b lo hi G n p2 R hG ?_
      unfold V_X7_newList
      rw [e2l]
      refine c_roomY hX hG (by show 2 * (vs.length + 1) ≤ 1000; omega) hr ⟨fun _ => eqI (eqI ?_), fun c => absurd c (by decide)⟩
      have hG' : CG x G0 φ b lo hi sv rc (rmH x ((14, i, [], st, e, q, v :: vs) :: K) sv rc hp (2 * (v :: vs).length)) out inp cn1 ((cvl ((14, i, [], st, e, q, v :: vs) :: K)).map gv) (ccl ((14, i, [], st, e, q, v :: vs) :: K)) (cat ((14, i, [], st, e, q, v :: vs) :: K)) p2 G := by rw [v1, v2, v3]; exact hG
      have := c_mkL (R := R) hX v1 ll (v :: vs) 0 _ φ vnil hp2 w G n hm (List.drop_zero) (Nat.zero_le _) hW1 (Gd_rm hGd) hr hV1 trivial hG' hw (by show 10 + (vs.length + 1) ≤ n; omega) (fun φ1 G1 g1 w1 => kk φ1 G1 (by rw [v1, v2, v3] at g1; exact g1) w1)
      rw [show cw φ vnil = 1 from wd_nil] at this
      exact this
    · refine ⟨fun _ => eqI (eqI ?_), fun c => absurd c (by decide)⟩
      rw [show nI (v :: vs).length - 1 = iI (((v :: vs).length : Int) - 1) by rw [← iI_nat, show (1 : Int32) = iI 1 from rfl, iI_sub]]
      exact r_mkL (v :: vs) _ vnil hp2 w g k cn1 n hm hW1 hr hV1 trivial hM hKM hKM.2.2.2.2.1 (by omega) (by show 300 + (vs.length + 1) ≤ n; omega) kk
  · refine ans9 φ _ _ b lo hi G n p2 R hG ?_
    unfold V_X7_newList
    rw [e2l]
    exact c_roomN hX hG hu (by show 2 * (vs.length + 1) ≤ 1000; omega) hr (fun G1 g1 w1 => ⟨fun c => absurd rfl c, fun _ => kk _ G1 g1 w1⟩)
  · have e13 : g 0 13 - nI (allv K).length = nI (v :: vs).length := by
      have : g 0 13 = nI ((v :: vs) ++ allv K).length := hKM.2.1
      rw [this, List.length_append, nI_sub (by omega)]
      congr 1
      omega
    have hVl : VlM g ((v :: vs) ++ allv K) := hKM.2.2.2.2.1
    have hv0 : ∃ w, vok w ∧ g 21 (allv K).length = enc w := by
      have := hVl (allv K).length (by rw [List.length_append]; show (allv K).length < vs.length + 1 + (allv K).length; omega)
      refine ⟨_, ?_, this⟩
      have hm := vl_mem (l := (v :: vs) ++ allv K) (i := (allv K).length) (by rw [List.length_append]; show (allv K).length < vs.length + 1 + (allv K).length; omega)
      exact (hGd.1 _ hm).ok
    obtain ⟨w0, hw0, ew0⟩ := hv0
    unfold V_X12_lists
    rw [nI_clamp (by omega), ew0]
    refine ⟨vp_in_nI (by omega) (by decide), eqI (r_sort hw0 ⟨fun _ => ⟨fun c => absurd c (by decide), fun _ => ⟨fun c => absurd rfl c, fun _ => ⟨fun _ => ?_, fun c => absurd c (by decide)⟩⟩⟩, fun c => absurd c (by decide)⟩)⟩
    rw [e13]
    unfold V_X12_lists_63
    rw [e2l]
    exact kk
end MC
section ME
variable {x : Cx} {G0 G : SG} {N : Nat} {φ : Nat → Nat} {b lo hi : Nat} {sv : Nat → Option Va} {rc : Nat → Va × Va} {hp : Nat → Option Ob} {out : List Nat} {inp : List Int} {cn : Nat → Int32} {LV LC LK : List Gw} {p n i : Nat} {post : Int32 → SG → Prop}
/-- a vector's words, as many as are written -/
def VI (h0 : St) (a u l j : Nat) (w0 w : Int32) (h : St) : Prop := h 0 8 = nI (u + l + 1) ∧ (∀ t, t ≠ 8 → h 0 t = h0 0 t) ∧ (∀ t, t < a → h 1 t = h0 1 t) ∧ h 1 a = w0 ∧ ∀ t, 1 ≤ t → t ≤ j → h 1 (a + t) = w
theorem c_vecL {h0 : St} {a u l : Nat} {w0 w : Int32} {R : Int32 → SG → Prop} (ha : a + l < N) (hN : N < 3000) (hl : l ≤ 7) (kk : ∀ h, VI h0 a u l l w0 w h → R (wd 5 ((a : Nat) : Int)) (uo G 2 h)) : ∀ (m j n : Nat) (h : St), j + m = l → m < n → VI h0 a u l j w0 w h → V_X7_newVector_66 N R n w (nI l) (nI a) (nI (j + 1)) (uo G 2 h)
  | 0, j, n, h, hj, hn, hI => by
    obtain ⟨n, rfl⟩ : ∃ n', n = n' + 1 := ⟨n - 1, by omega⟩
    have e : j = l := by omega
    subst e
    unfold V_X7_newVector_66
    refine ⟨fun _ => ?_, fun c => absurd (nI_lt (by omega) (by omega)) c⟩
    rw [← iI_nat a]
    exact v_of (t := 5) (by decide) (kk h hI)
  | m + 1, j, n, h, hj, hn, hI => by
    obtain ⟨n, rfl⟩ : ∃ n', n = n' + 1 := ⟨n - 1, by omega⟩
    unfold V_X7_newVector_66
    refine ⟨fun c => absurd ((nI_ltI (by omega) (by omega)).mp c) (by omega), fun _ => ?_⟩
    rw [nI_add, nI_1]
    refine v_put (by omega) (by omega) (eqI ?_)
    rw [uo_uo]
    refine eqI (c_vecL ha hN hl kk m (j + 1) n (up h 1 (a + (j + 1)) w) (by omega) (by omega) ?_)
    obtain ⟨i1, i2, i3, i4, i5⟩ := hI
    refine ⟨i1, i2, fun t ht => ?_, ?_, fun t t1 t2 => ?_⟩
    · show upd (h 1) (a + (j + 1)) w t = _
      rw [updN _ _ (by omega)]; exact i3 t ht
    · show upd (h 1) (a + (j + 1)) w a = _
      rw [updN _ _ (by omega)]; exact i4
    · show upd (h 1) (a + (j + 1)) w (a + t) = _
      by_cases e : t = j + 1
      · subst e; rw [updE]
      · rw [updN _ _ (by omega)]; exact i5 t t1 (by omega)
end ME
section MF
variable {x : Cx} {G0 : SG} {N : Nat} {cv cf : Int32} {sv : Nat → Option Va} {rc : Nat → Va × Va} {hp : Nat → Option Ob} {out : List Nat} {inp : List Int} {cn : Nat → Int32}
def VJ (g0 : St) (s j : Nat) (w : Int32) (g : St) : Prop := (∀ c, c ≠ 10 → g c = g0 c) ∧ (∀ t, t < j → g 10 (8 * s + t) = w) ∧ ∀ t, (t < 8 * s ∨ 8 * s + 8 ≤ t) → g 10 t = g0 10 t
theorem r_vecL {g0 : St} {k : StL} {s l : Nat} {w : Int32} {R : Int32 → St → StL → Prop} (hs : s < 168) (hl : l ≤ 7) (kk : ∀ g, VJ g0 s l w g → R (enc (vvec s)) g k) : ∀ (m j n : Nat) (g : St), j + m = l → m < n → VJ g0 s j w g → V_X12_vector_61 R n w (nI l) (nI s) (nI j) g k
  | 0, j, n, g, hj, hn, hI => by
    obtain ⟨n, rfl⟩ : ∃ n', n = n' + 1 := ⟨n - 1, by omega⟩
    have e : j = l := by omega
    subst e
    unfold V_X12_vector_61
    exact ⟨fun _ => r_code (v := vvec s) (c := 5) (p := s) hs rfl rfl (kk g hI), fun c => absurd (Int32.le_refl _) c⟩
  | m + 1, j, n, g, hj, hn, hI => by
    obtain ⟨n, rfl⟩ : ∃ n', n = n' + 1 := ⟨n - 1, by omega⟩
    unfold V_X12_vector_61
    refine ⟨fun c => absurd ((nI_leI (by omega) (by omega)).mp c) (by omega), fun _ => ?_⟩
    rw [show (8 : Int32) = nI 8 from rfl, nI_mul, nI_add, nI_clamp (by omega), nI_1]
    refine ⟨vp_in_nI (by omega) (by decide), eqI (eqI (r_vecL hs hl kk m (j + 1) n _ (by omega) (by omega) ?_))⟩
    obtain ⟨i1, i2, i3⟩ := hI
    refine ⟨fun c hc => by rw [upB _ _ _ hc]; exact i1 c hc, fun t ht => ?_, fun t ht => ?_⟩
    · show upd (g 10) (8 * s + j) w (8 * s + t) = _
      by_cases e : t = j
      · subst e; rw [updE]
      · rw [updN _ _ (by omega)]; exact i2 t (by omega)
    · show upd (g 10) (8 * s + j) w t = _
      rw [updN _ _ (by omega)]; exact i3 t ht
theorem s_26 {K : List Fr} {i st e q p D p1 : Nat} {sc : List (List Nat)} {vs : List Va} {v : Va} (hX : XC x G0 N) (hF : OpF x sv rc hp out inp cn K 26 i st e q p D p1 sc (v :: vs)) : Stq x G0 N cv cf ((1, p, v), (26, i, [], st, e, q, vs) :: K, sv, rc, hp, out, inp, cn) := by
  obtain ⟨a, rfl⟩ := two_parts hF rfl rfl
  have hW := hF.1
  have hva : VV x.K x.C hp a := hF.2.2.2.1 a (by simp)
  have hvv : VV x.K x.C hp v := hF.2.2.2.1 v (by simp)
  have hu := hF.1.2.2.2.2.2.2.1
  have l2 := hF.2.2.2.2.2.2.2.2.2.2.2.2.2.2.2.2.2.1
  have ll : ([] ++ gv v :: gv a :: (cvl K).map gv).length ≤ 1550 := by
    show ((cvl K).map gv).length + 1 + 1 ≤ 1550
    rw [List.length_map]; omega
  have hbl : (allv K).length + 2 < 1100 := by
    have := hF.2.2.2.2.2.2.2.2.2.2.2.2.2.2.2.2.2.2.2.2.1
    have : (allv K).length + 2 ≤ 1000 := this
    omega
  have hk7 := va_kd_lt v
  have hk8 := va_kd_lt a
  have hGd := hF.2.2.2.2.2.2.2.2.2.2.2.2.2.2.2.2.2.2.2.2.2
  have hK := hF.2.2.2.2.2.2.2.2.2.2.2.2.2.2.2.1
  obtain ⟨v1, v2, v3⟩ := cvl_full (op := 26) (K := K) (i := i) (st := st) (e := e) (q := q) (vv := [v, a]) (by decide) (by decide)
  have pre : ∀ (g : St) (k : StL) (n : Nat) (R : Int32 → St → StL → Prop), VlM g ([v, a] ++ allv K) → V_X12_vector n (enc a) (enc v) g k (fun r g1 k1 => R r g1 k1) → RefO n 26 (allv K).length g k R := fun g k n R hV k1 => by
    refine ⟨fun c => absurd c (by decide), fun _ c => absurd c (by decide), fun _ => ?_⟩
    obtain ⟨e1, e2⟩ := vl_2 (l := allv K) hV
    unfold V_X12_others
    rw [nI_clamp (by omega), nI_1, nI_clamp (by omega), e1, e2]
    exact ⟨vp_in_nI (by omega) (by decide), eqI ⟨fun c => absurd rfl c, fun _ => ⟨vp_in_nI (by omega) (by decide), k1⟩⟩⟩
  have cls : ∀ (φ : Nat → Nat) (hp9 : Nat → Option Ob) (cn9 : Nat → Int32) (b lo hi : Nat) (G : SG) (n p2 : Nat) (R : Int32 → SG → Prop), CG x G0 φ b lo hi sv rc hp9 out inp cn9 ([v, a].map gv ++ (cvl K).map gv) (ccl K) (cat K) p2 G → V_X7_newVector N n (cw φ a) (cw φ v) G (fun r g => R r g) → V_X7_answerOf N n 26 2 G R := fun φ hp9 cn9 b lo hi G n p2 R hG k1 => by
    refine c_ansM (L0 := []) (m := 2) hG.2.1 ll rfl ?_
    unfold AnsB
    exact ⟨by decide, vp_in_nI (n := 26) (by decide) (by decide), eqI ⟨fun c => absurd c (by decide), fun c => absurd c (by decide), fun c => absurd c (by decide), fun c => absurd c (by decide), fun c => absurd c (by decide), fun c => absurd c (by decide), fun c => absurd c (by decide), fun c => absurd c (by decide), fun _ => k1, fun c => absurd c (by decide), fun c => absurd c (by decide), fun c => absurd c (by decide), fun c => absurd c (by decide), fun c => absurd c (by decide), fun c10 c11 c12 c13 c14 c15 c16 c17 c18 c19 c20 c21 c22 c23 => absurd rfl c18⟩⟩
  by_cases hk : vkd a = 2
  case neg =>
    refine s_opE (er := 4) hX hF (by decide) (by decide) (fun φ b lo hi G n p2 R hG hn kk => cls φ _ _ b lo hi G n p2 R hG ?_) (fun g k n R hM hV h13 hn kk => pre g k n R hV ?_)
    · unfold V_X7_newVector V_X7_failing
      exact c_held hva (CWd.rng hX hu hG.1) (c_tag hva (CWd.rng hX hu hG.1) ⟨fun _ => eqI (kk _), fun c => absurd ((nI_eq (b := 2) (by omega) (by decide)).mp c) hk⟩)
    · unfold V_X12_vector V_X12_fail
      exact r_sort hva.ok ⟨fun _ => eqI (kk _), fun c => absurd ((nI_eq (b := 2) (by omega) (by decide)).mp c) hk⟩
  obtain ⟨m, rfl⟩ := num_of hk
  have hm : i16 m := hva
  have b1 := hm.1
  have b2 := hm.2
  have t0 : iI m < 0 ↔ m < 0 := by rw [show (0 : Int32) = iI 0 from rfl]; exact iI_lt (by omega) (by omega) (by decide) (by decide)
  have t7 : iI m ≤ 7 ↔ m ≤ 7 := by rw [show (7 : Int32) = iI 7 from rfl]; exact iI_le (by omega) (by omega) (by decide) (by decide)
  by_cases hin : 0 ≤ m ∧ m ≤ 7
  case neg =>
    refine s_opE (er := 4) hX hF (by decide) (by decide) (fun φ b lo hi G n p2 R hG hn kk => cls φ _ _ b lo hi G n p2 R hG ?_) (fun g k n R hM hV h13 hn kk => pre g k n R hV ?_)
    · unfold V_X7_newVector V_X7_failing
      refine c_heldM hm (c_tagM hm ⟨fun c => absurd rfl c, fun _ => ⟨fun _ => eqI (kk _), fun c => ⟨fun c7 => ?_, fun _ => eqI (kk _)⟩⟩⟩)
      have := t7.mp c7
      have : ¬ m < 0 := fun h => c (t0.mpr h)
      exact absurd ⟨by omega, by omega⟩ hin
    · unfold V_X12_vector V_X12_fail
      refine r_sort hva.ok ⟨fun c => absurd rfl c, fun _ => r_amount b1 b2 ⟨fun _ => eqI (kk _), fun c => r_amount b1 b2 ⟨fun c7 => ?_, fun _ => eqI (kk _)⟩⟩⟩
      have := t7.mp c7
      have : ¬ m < 0 := fun h => c (t0.mpr h)
      exact absurd ⟨by omega, by omega⟩ hin
  obtain ⟨l, rfl⟩ : ∃ l : Nat, m = (l : Int) := ⟨m.toNat, by omega⟩
  have hl : l ≤ 7 := by omega
  refine s_opM (m := l + 1) (RefM := fun n g_18 k_19 R => V_X12_make n (2 : Int32) (iI (l : Int) + (1 : Int32)) g_18 k_19 (fun r_24 g_22 k_23 => ∀ x_25 : Int32, x_25 = (0 : Int32) → V_X12_vector_61 R n (enc v) (iI (l : Int)) r_24 x_25 g_22 k_23)) hX hF (by omega) (by omega) (fun hr => ?_) (fun φ b lo hi G n p2 R hG hw hr kk => cls φ _ _ b lo hi G n p2 R hG ?_) (fun g k n R hM hKM kk => pre g k n R hKM.2.2.2.2.1 ?_)
  · have hW1 := PW_rm (m := l + 1) hX.1 hW hGd
    have hv1 : VV x.K x.C (rmH x ((26, i, [], st, e, q, [v, vnum (l : Int)]) :: K) sv rc hp (l + 1)) v := VV_rm hvv (List.mem_append.mpr (Or.inl (by simp)))
    obtain ⟨s, s1, s2, s3⟩ := PW_free hX.1 hW1
    have hol : olen (ovec (List.replicate l v)) = l + 1 := by show (List.replicate l v).length + 1 = l + 1; rw [List.length_replicate]
    have hO : ObR x.r0 x.nam x.K x.C x.c x.tp x.ent (hset (rmH x ((26, i, [], st, e, q, [v, vnum (l : Int)]) :: K) sv rc hp (l + 1)) s (ovec (List.replicate l v))) (ovec (List.replicate l v)) := ⟨by rw [List.length_replicate]; exact hl, fun w hw => by rw [(List.mem_replicate.mp hw).2]; exact VV_add s2 hv1⟩
    refine ⟨_, vvec s, PW_add hW1 s1 s2 (by rw [hol]; exact hr) hO, Cn_add s2 (Cn_rm XK_tl hK), ⟨s1, _, hset_at _ _ _⟩, fun φ b lo hi cn1 G n p2 R hG hw hn kk => cls φ _ _ b lo hi G n p2 R hG ?_, fun g k cn1 n R hM hKM hn kk => ?_⟩
    · obtain ⟨n1, n2, n3⟩ := CG_N hX hG
      unfold V_X7_newVector
      refine c_heldM hm (c_tagM hm ⟨fun c => absurd rfl c, fun _ => ⟨fun c => absurd (t0.mp c) (by omega), fun _ => ⟨fun _ => ?_, fun c => absurd (t7.mpr (by omega)) c⟩⟩⟩)
      rw [iI_nat, show (1 : Int32) = nI 1 from rfl, nI_add, Nat.add_comm 1 l]
      refine c_roomY (m := l + 1) hX hG (by omega) hr ⟨fun _ => c_make (m := l + 1) hG (eqI (v_put (by omega) (by omega) (eqI (eqI ?_)))), fun c => absurd c (by decide)⟩
      rw [uo_uo]
      refine c_vecL (h0 := G 2) (u := usum (rmH x ((26, i, [], st, e, q, [v, vnum (l : Int)]) :: K) sv rc hp (l + 1)) 168) (w0 := wd 2 (l : Int)) (j := 0) (by omega) n3 hl (fun h hI => ?_) l n _ (by omega) (by omega) ⟨?_, fun t ht => us4 _ _ ht, fun t ht => ?_, ?_, fun t t1 t2 => absurd t1 (by omega)⟩
      · obtain ⟨j1, j2, j3, j4, j5⟩ := hI
        have hG' : CG x G0 φ b lo hi sv rc (rmH x ((26, i, [], st, e, q, [v, vnum (l : Int)]) :: K) sv rc hp (l + 1)) out inp cn1 ((cvl ((26, i, [], st, e, q, [v, vnum (l : Int)]) :: K)).map gv) (ccl ((26, i, [], st, e, q, [v, vnum (l : Int)]) :: K)) (cat ((26, i, [], st, e, q, [v, vnum (l : Int)]) :: K)) p2 G := by rw [v1, v2, v3]; exact hG
        have hC := CGnew (s := s) (o := ovec (List.replicate l v)) (h1 := h) hX hW1 hG' s1 s2 (rows_ne (Gd_rm hGd) s2) (by rw [hol, ← Nat.add_assoc]; exact j1) j2 j3 (fun t ht => ?_)
        · rw [v1, v2, v3] at hC
          have := kk _ _ hC hw
          rw [show gw (phS φ s (b + usum (rmH x ((26, i, [], st, e, q, [v, vnum (l : Int)]) :: K) sv rc hp (l + 1)) 168)) (gv (vvec s)) = wd 5 ((b + usum (rmH x ((26, i, [], st, e, q, [v, vnum (l : Int)]) :: K) sv rc hp (l + 1)) 168 : Nat) : Int) by
            show wd 5 ((phS φ s (b + usum (rmH x ((26, i, [], st, e, q, [v, vnum (l : Int)]) :: K) sv rc hp (l + 1)) 168) s : Nat) : Int) = _
            rw [phS, if_pos rfl]] at this
          exact this
        · rw [hol] at ht
          show h 1 _ = (wd 2 ((List.replicate l v).length : Int) :: (List.replicate l v).map (cw (phS φ s (b + usum (rmH x ((26, i, [], st, e, q, [v, vnum (l : Int)]) :: K) sv rc hp (l + 1)) 168)))).getD t 0
          rw [List.length_replicate, List.map_replicate, cw_phS hv1 s2]
          cases t with
          | zero => exact j4
          | succ t =>
            rw [j5 (t + 1) (by omega) (by omega)]
            show _ = (List.replicate l (cw φ v)).getD t 0
            rw [List.getD_eq_getElem?_getD, List.getElem?_replicate, if_pos (by omega)]; rfl
      · show nI (usum (rmH x ((26, i, [], st, e, q, [v, vnum (l : Int)]) :: K) sv rc hp (l + 1)) 168 + (l + 1)) = _
        rw [← Nat.add_assoc]
      · show upd (G 2 1) _ _ t = _
        rw [updN _ _ (by omega)]
      · exact updE _ _ _
    · show V_X12_make n (2 : Int32) (iI (l : Int) + (1 : Int32)) g k _
      rw [iI_nat, show (1 : Int32) = nI 1 from rfl, nI_add]
      refine r_make (w := 2) (len := l + 1) hM s1 s2 s3 (by omega) (eqI ?_)
      refine r_vecL (l := l) (j := 0) s1 hl (fun g2 hJ => ?_) l n _ (by omega) (by omega) ⟨fun c hc => rfl, fun t ht => absurd ht (Nat.not_lt_zero _), fun t ht => rfl⟩
      obtain ⟨j1, j2, j3⟩ := hJ
      have h0 : ∀ j, j ≠ 4 → g2 0 j = g 0 j := fun j hj => by rw [j1 0 (by decide)]; exact us4 _ _ hj
      have hrw : ∀ c, c ≠ 0 → c ≠ 8 → c ≠ 9 → c ≠ 10 → g2 c = g c := fun c d0 d8 d9 d10 => by rw [j1 c d10, usZ d0, upB _ _ _ d9, upB _ _ _ d8]
      refine kk g2 (MWnew (o := ovec (List.replicate l v)) hW1 hM s1 s2 ?_ ?_ (fun t ht => ?_) (fun z hz => j3 z hz) ?_ h0 hrw) (MK_new hKM h0 hrw)
      · rw [j1 8 (by decide)]; rfl
      · rw [j1 9 (by decide), hol]; rfl
      · have ht : t < ((List.replicate l v).map enc).length := ht
        rw [List.length_map, List.length_replicate] at ht
        rw [j2 t ht]
        show _ = ((List.replicate l v).map enc).getD t 0
        rw [List.map_replicate, List.getD_eq_getElem?_getD, List.getElem?_replicate, if_pos ht]; rfl
      · rw [j1 0 (by decide), hol]; rfl
  · unfold V_X7_newVector
    refine c_heldM hm (c_tagM hm ⟨fun c => absurd rfl c, fun _ => ⟨fun c => absurd (t0.mp c) (by omega), fun _ => ⟨fun _ => ?_, fun c => absurd (t7.mpr (by omega)) c⟩⟩⟩)
    rw [iI_nat, show (1 : Int32) = nI 1 from rfl, nI_add, Nat.add_comm 1 l]
    exact c_roomN (m := l + 1) hX hG hu (by omega) hr (fun G1 g1 w1 => ⟨fun c => absurd rfl c, fun _ => kk _ G1 g1 w1⟩)
  · unfold V_X12_vector
    refine r_sort hva.ok ⟨fun c => absurd rfl c, fun _ => r_amount b1 b2 ⟨fun c => absurd (t0.mp c) (by omega), fun _ => r_amount b1 b2 ⟨fun _ => r_amount b1 b2 ?_, fun c => absurd (t7.mpr (by omega)) c⟩⟩⟩
    have e1 : iI (l : Int) + 1 = nI (l + 1) := by rw [iI_nat]; exact nI_1 l
    rw [← e1] at kk
    exact kk
end MF
