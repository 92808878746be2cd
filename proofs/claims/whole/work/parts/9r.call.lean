-- ===== a call =====
theorem as_rev {as : List Va} {t : Nat} (ht : t < as.length) : as.reverse.getD t none = as.getD (as.length - 1 - t) none := by
  have h1 : t < as.reverse.length := by rw [List.length_reverse]; exact ht
  have h2 : as.length - 1 - t < as.length := by omega
  rw [List.getD_eq_getElem?_getD, List.getElem?_eq_getElem h1, List.getElem_reverse, List.getD_eq_getElem?_getD, List.getElem?_eq_getElem h2]
section CA
variable {x : Cx} {G0 G : SG} {N : Nat} {φ : Nat → Nat} {b lo hi : Nat} {sv : Nat → Option Va} {rc : Nat → Va × Va} {hp : Nat → Option Ob} {out : List Nat} {inp : List Int} {cn : Nat → Int32} {LV LC LK : List Gw} {p n i : Nat} {post : Int32 → SG → Prop}
/-- the frame's words, as many as are written -/
def FI (h0 : St) (a u m j : Nat) (w0 : Int32) (f : Nat → Int32) (h : St) : Prop := h 0 8 = nI (u + (m + 2)) ∧ (∀ t, t ≠ 8 → h 0 t = h0 0 t) ∧ (∀ t, t < a → h 1 t = h0 1 t) ∧ h 1 a = w0 ∧ h 1 (a + 1) = wd 2 (m : Int) ∧ ∀ t, t < j → h 1 (a + 2 + t) = f t
theorem c_ent140 {h0 : St} {a u m ent pq : Nat} {w0 : Int32} {as : List Va} {L1 L2 : List Gw} {R : SG → Prop} (hX : XC x G0 N) (hm : as.length = m) (hm4 : m ≤ 4) (ha : a + m + 2 ≤ N) (hN : N < 3000) (hl : ((as ++ [vnil]).map gv ++ L1).length ≤ 1550) (hent : ent + 1 < 10000) (hpq : pq < 10000) (hLC : L2.length + 2 ≤ 60) (fv : Va)
    (h9 : StkR (G 9) (((as ++ [fv]).map gv ++ L1).map (gw φ))) (h10 : StkR (G 10) (L2.map (gw φ))) (h0p : G 4 0 0 = nI pq)
    (kk : ∀ h u9 u10, FI h0 a u m m w0 (fun t => cw φ (as.reverse.getD t none)) h → StkR u9 (L1.map (gw φ)) → StkR u10 (wd 2 (pq : Int) :: wd 7 (a : Int) :: L2.map (gw φ)) → ∀ G1 : SG, (∀ o, o ≠ 2 → o ≠ 4 → o ≠ 9 → o ≠ 10 → G1 o = G o) → G1 2 = h → G1 9 = u9 → G1 10 = u10 → G1 4 0 0 = nI (ent + 1) → G1 4 0 5 = (if G 4 0 5 < nI ((L2.length + 2) / 2) then nI ((L2.length + 2) / 2) else G 4 0 5) → (∀ j, j ≠ 0 → j ≠ 5 → G1 4 0 j = G 4 0 j) → R G1) :
    ∀ (k j n : Nat) (h : St), j + k = m → k < n → FI h0 a u m j w0 (fun t => cw φ (as.reverse.getD t none)) h → V_X7_enter_140 N R n (nI m) (nI ent) (nI a) (nI j) (uo G 2 h)
  | 0, j, n, h, hj, hn, hI => by
    obtain ⟨n, rfl⟩ : ∃ n', n = n' + 1 := ⟨n - 1, by omega⟩
    have e : j = m := by omega
    subst e
    have hlen : (((as ++ [fv]).map gv ++ L1).map (gw φ)).length = j + 1 + L1.length := by simp [hm]; omega
    have e9 : (uo G 2 h) 9 0 0 - 1 - nI j = nI L1.length := by
      have := h9.1
      rw [hlen] at this
      show G 9 0 0 - 1 - nI j = _
      rw [this, show (1 : Int32) = nI 1 from rfl, nI_sub (by omega), nI_sub (by omega)]
      congr 1
      omega
    unfold V_X7_enter_140
    refine ⟨fun _ => ?_, fun c => absurd (Int32.le_refl _) c⟩
    rw [e9]
    have hl9 : L1.length ≤ 1550 := by rw [List.length_append] at hl; omega
    refine v_cut (g := G 9) h9 (by rw [hlen]; omega) (by rw [hlen]; omega) (fun u9 hu9 => eqI ?_)
    rw [← iI_nat a]
    refine v_of (t := 7) (by decide) (v_push (g := G 10) h10 (by rw [List.length_map]; omega) (by decide) (fun u10 hu10 => eqI ?_))
    have e40 : (uo (uo (uo G 2 h) 9 u9) 10 u10) 4 0 0 = nI pq := h0p
    rw [e40, ← iI_nat pq]
    refine v_of (t := 2) (by decide) (v_push hu10 (by rw [List.length_cons, List.length_map]; omega) (by decide) (fun u11 hu11 => eqI (eqI (eqI ?_))))
    have e10 : u11 0 0 / 2 = nI ((L2.length + 2) / 2) := by
      have := hu11.1
      rw [this, List.length_cons, List.length_cons, List.length_map, show (2 : Int32) = nI 2 from rfl, nI_div (by omega) (by decide)]
    have ed : (((as ++ [fv]).map gv ++ L1).map (gw φ)).drop ((((as ++ [fv]).map gv ++ L1).map (gw φ)).length - L1.length) = L1.map (gw φ) := by
      rw [hlen, show j + 1 + L1.length - L1.length = j + 1 by omega, List.map_append]
      have := List.drop_left (l₁ := ((as ++ [fv]).map gv).map (gw φ)) (l₂ := L1.map (gw φ))
      rw [show (((as ++ [fv]).map gv).map (gw φ)).length = j + 1 by simp [hm]] at this
      exact this
    rw [ed] at hu9
    refine kk h u9 u11 hI hu9 hu11 _ (fun o o2 o4 o9 o10 => ?_) rfl rfl rfl ?_ ?_ (fun j j0 j5 => ?_)
    · rw [uoN o4, uoN o4, uoN o10, uoN o10, uoN o9, uoN o2]
    · show nI ent + 1 = _
      exact nI_1 ent
    · show (if G 4 0 5 < u11 0 0 / 2 then u11 0 0 / 2 else G 4 0 5) = _
      rw [e10]
    · show us (us (G 4) 5 _) 0 _ 0 j = _
      rw [us4 _ _ j0, us4 _ _ j5]
  | k + 1, j, n, h, hj, hn, hI => by
    obtain ⟨n, rfl⟩ : ∃ n', n = n' + 1 := ⟨n - 1, by omega⟩
    have hlen : (((as ++ [fv]).map gv ++ L1).map (gw φ)).length = m + 1 + L1.length := by simp [hm]; omega
    have hl9 : m + 1 + L1.length ≤ 1550 := by
      have : ((as ++ [vnil]).map gv ++ L1).length = m + 1 + L1.length := by simp [hm]; omega
      omega
    have hpk : (((as ++ [fv]).map gv ++ L1).map (gw φ)).getD (m - 1 - j) 0 = cw φ (as.reverse.getD j none) := by
      have hj2 : m - 1 - j < as.length := by omega
      rw [as_rev (by omega), List.getD_eq_getElem?_getD, List.getElem?_map, List.getElem?_append_left (by simp; omega), List.getElem?_map, List.getElem?_append_left hj2, List.getD_eq_getElem?_getD, show as.length - 1 - j = m - 1 - j by omega, List.getElem?_eq_getElem hj2]; rfl
    unfold V_X7_enter_140
    refine ⟨fun c => absurd ((nI_leI (by omega) (by omega)).mp c) (by omega), fun _ => ?_⟩
    rw [show (1 : Int32) = nI 1 from rfl, nI_sub (by omega), nI_sub (by omega)]
    refine v_peek (g := G 9) h9 (by rw [hlen]; omega) (by rw [hlen]; exact hl9) (by decide) (eqI ?_)
    rw [hpk, show uo (uo G 2 h) 9 (G 9) = uo G 2 h from uo_id rfl, show (2 : Int32) = nI 2 from rfl, nI_add, nI_add]
    refine v_put (by omega) (by omega) (eqI ?_)
    rw [uo_uo, nI_add]
    refine eqI (c_ent140 hX hm hm4 ha hN hl hent hpq hLC fv h9 h10 h0p kk k (j + 1) n _ (by omega) (by omega) ?_)
    obtain ⟨i1, i2, i3, i4, i5, i6⟩ := hI
    refine ⟨i1, i2, fun t ht => ?_, ?_, ?_, fun t ht => ?_⟩
    · show upd (h 1) (a + 2 + j) _ t = _
      rw [updN _ _ (by omega)]; exact i3 t ht
    · show upd (h 1) (a + 2 + j) _ a = _
      rw [updN _ _ (by omega)]; exact i4
    · show upd (h 1) (a + 2 + j) _ (a + 1) = _
      rw [updN _ _ (by omega)]; exact i5
    · show upd (h 1) (a + 2 + j) _ (a + 2 + t) = _
      by_cases e : t = j
      · subst e; rw [updE]
      · rw [updN _ _ (by omega)]; exact i6 t (by omega)
theorem v_atAny {w : Int32} {g : St} {R : Int32 → St → Prop} (hN : N < 2 ^ 31) (k : ∀ r, R r g) : V_X2_at N w g R := by
  unfold V_X2_at
  refine ⟨fun _ => k _, fun c => ⟨fun _ => k _, fun c2 => ?_⟩⟩
  obtain ⟨m, hm, rfl⟩ := nI_of c
  rw [ofN] at c2
  have : m < N := by
    rcases Nat.lt_or_ge m N with z | z
    · exact z
    · exact absurd (nI_le z (by omega)) c2
  exact ⟨vp_in_nI this (by omega), k _⟩
/-- a call is entered: what is looked at first -/
theorem c_enter {as : List Va} {fv : Va} {L1 : List Gw} {R : SG → Prop} (hX : XC x G0 N) (hW : PW x sv rc hp out inp) (h : CG x G0 φ b lo hi sv rc hp out inp cn ((as ++ [fv]).map gv ++ L1) LC LK p G) (hl : ((as ++ [fv]).map gv ++ L1).length ≤ 1550) (hf : VV x.K x.C hp fv)
    (k4 : (∀ s r e, fv = vclo s → hp s = some (oclo r e) → ¬ x.c (x.ent r) = nI as.length) → R (uo G 4 (us (G 4) 2 4)))
    (k1 : ∀ s r e, fv = vclo s → s < 168 → hp s = some (oclo r e) → x.c (x.ent r) = nI as.length → x.ent r < 1400 → (((G 10 0 0) < (60 : Int32) → V_X7_isRoomFor N ((2 : Int32) + nI as.length) G (fun r_40 g_41 => ((r_40 = 0 → R g_41) ∧ (¬ r_40 = 0 → V_X2_make N ((2 : Int32) + nI as.length) (g_41 2) (fun r_43 u_45 => ∀ g_44 : SG, g_44 = uo g_41 2 u_45 → V_X2_at N (nI (φ s) + (1 : Int32)) (g_44 2) (fun r_46 u_48 => ∀ g_47 : SG, g_47 = uo g_44 2 u_48 → V_X2_put N r_43 r_46 (g_47 2) (fun u_51 => ∀ g_50 : SG, g_50 = uo g_47 2 u_51 → V_X10_of (2 : Int32) (nI as.length) (fun r_52 => V_X2_put N (r_43 + (1 : Int32)) r_52 (g_50 2) (fun u_55 => ∀ g_54 : SG, g_54 = uo g_50 2 u_55 → ∀ x_56 : Int32, x_56 = (0 : Int32) → V_X7_enter_140 N R n (nI as.length) (nI (x.ent r)) r_43 x_56 g_54))))))))) ∧ (¬ (G 10 0 0) < (60 : Int32) → ∀ g_57 : SG, g_57 = uo G 4 (us (G 4) 2 (2 : Int32)) → R g_57))) : V_X7_enter N n (nI as.length) G R := by
  have hu := hW.2.2.2.2.2.2.1
  have htp := hX.1.2.2.2.2.2.2
  have hR := CWd.rng hX hu h.1
  obtain ⟨n1, n2, n3⟩ := CG_N hX h
  have hlen : (((as ++ [fv]).map gv ++ L1).map (gw φ)).length = as.length + 1 + L1.length := by simp; omega
  have hll : ((as ++ [fv]).map gv ++ L1).length = as.length + 1 + L1.length := by simp; omega
  have hpk : (((as ++ [fv]).map gv ++ L1).map (gw φ)).getD as.length 0 = cw φ fv := by
    rw [List.getD_eq_getElem?_getD, List.getElem?_map, List.getElem?_append_left (by simp), List.getElem?_map, List.getElem?_append_right (Nat.le_refl _), Nat.sub_self]; rfl
  unfold V_X7_enter
  refine v_peek h.2.1 (by rw [hlen]; omega) (by rw [hlen]; omega) (by decide) (eqI ?_)
  rw [hpk, show uo G 9 (G 9) = G from uo_id rfl]
  refine c_held hf hR ?_
  by_cases hk : vkd fv = 6
  · obtain ⟨s, rfl⟩ : ∃ s, fv = vclo s := by
      rcases fv with _ | v | v | v | v | v | v
      · exact absurd hk (show ¬ 1 = 6 by decide)
      · exact absurd hk (show ¬ 2 = 6 by decide)
      · exact absurd hk (show ¬ 3 = 6 by decide)
      · exact absurd hk (show ¬ 4 = 6 by decide)
      · exact absurd hk (show ¬ 4 = 6 by decide)
      · exact absurd hk (show ¬ 5 = 6 by decide)
      · exact ⟨v, rfl⟩
    obtain ⟨hs, r, e0, ho⟩ := id hf
    obtain ⟨-, a2, a3, a4⟩ := h.1.2.2.1.1 s _ ho
    have a3 : φ s + 2 ≤ b + usum hp 168 := a3
    have hm0 : G 2 1 (φ s) = wd 2 ((x.ent r : Nat) : Int) := a4 0 (by show 0 < 2; decide)
    obtain ⟨d, sc, ps, b9, p9, q1, q2, q3, q4, q5, q6, q7, q8, q9, q10, q11⟩ := (hW.2.2.2.2.2.1 s _ ho).2
    have hel := (AtB_le (AtE_lt d (ps :: sc)) _ _ _ q6).1
    rw [show hld φ (vclo s) = ((φ s : Nat) : Int) from rfl, iI_nat]
    refine v_hat (by omega) (by omega) (eqI ?_)
    rw [show uo G 2 (G 2) = G from uo_id rfl, hm0]
    refine v_held (t := 2) (h := ((x.ent r : Nat) : Int)) (by decide) (by omega) (by omega) ?_
    rw [iI_nat]
    refine v_peek h.2.1 (by rw [hlen]; omega) (by rw [hlen]; omega) (by decide) (eqI ?_)
    rw [hpk, show uo G 9 (G 9) = G from uo_id rfl]
    refine c_tag hf hR ⟨fun c => absurd rfl c, fun _ => ?_⟩
    unfold V_X1_at
    refine ⟨fun c => absurd c (nI_pos (by omega)), fun _ => ⟨fun c => absurd ((nI_leI (a := 1536) (b := x.ent r) (by decide) (by omega)).mp c) (by omega), fun _ => ⟨vp_in_nI (by omega) (by decide), ?_⟩⟩⟩
    rw [nI_clamp (by omega), h.c7 hX]
    refine ⟨fun c => k1 s r e0 rfl hs ho c (by omega), fun c => eqI (k4 (fun s2 r2 e2 es ho2 c2 => ?_))⟩
    cases es
    rw [ho] at ho2; cases ho2
    exact c c2
  · refine v_atAny (by omega) (fun w => eqI ?_)
    rw [show uo G 2 (G 2) = G from uo_id rfl]
    unfold V_X10_held
    refine v_peek h.2.1 (by rw [hlen]; omega) (by rw [hlen]; omega) (by decide) (eqI ?_)
    rw [hpk, show uo G 9 (G 9) = G from uo_id rfl]
    have hk7 := va_kd_lt fv
    refine c_tag hf hR ⟨fun _ => eqI (k4 (fun s2 r2 e2 es ho2 c2 => hk (by rw [es]; rfl))), fun c => absurd ((nI_eq (b := 6) (by omega) (by decide)).mp c) hk⟩
end CA
section CB1
variable {x : Cx} {cv cf : Int32} {sv : Nat → Option Va} {rc : Nat → Va × Va} {hp : Nat → Option Ob} {out : List Nat} {inp : List Int} {cn : Nat → Int32}
def FJ (g0 : St) (s j : Nat) (f : Nat → Int32) (g : St) : Prop := (∀ c, c ≠ 10 → g c = g0 c) ∧ g 10 (8 * s) = g0 10 (8 * s) ∧ g 10 (8 * s + 1) = g0 10 (8 * s + 1) ∧ (∀ t, t < j → g 10 (8 * s + 2 + t) = f t) ∧ ∀ t, (t < 8 * s ∨ 8 * s + 8 ≤ t) → g 10 t = g0 10 t
theorem r_call146 {g0 : St} {k : StL} {s m base : Nat} {w4 : Int32} {f : Nat → Int32} {post : St → StL → Prop} (hs : s < 168) (hm : m ≤ 4) (hb : base + 5 < 1100) (hv : ∀ t, t < m → g0 21 (base + 1 + t) = f t) (kk : ∀ g, FJ g0 s m f g → ∀ g_19 : St, g_19 = us g 20 ((g 0 20) + (1 : Int32)) → (((g_19 0 20) ≤ (g_19 0 21) → V_X12_call_213 post 0 (nI base) w4 (nI s) g_19 k) ∧ (¬ (g_19 0 20) ≤ (g_19 0 21) → ∀ g_21 : St, g_21 = us g_19 21 (g_19 0 20) → V_X12_call_213 post 0 (nI base) w4 (nI s) g_21 k))) : ∀ (l j n : Nat) (g : St), j + l = m → l < n → FJ g0 s j f g → V_X12_call_146 post n (nI base) (nI m) w4 (nI s) (nI j) g k
  | 0, j, n, g, hj, hn, hI => by
    obtain ⟨n, rfl⟩ : ∃ n', n = n' + 1 := ⟨n - 1, by omega⟩
    have e : j = m := by omega
    subst e
    unfold V_X12_call_146
    exact ⟨fun _ => kk g hI, fun c => absurd (Int32.le_refl _) c⟩
  | l + 1, j, n, g, hj, hn, hI => by
    obtain ⟨n, rfl⟩ : ∃ n', n = n' + 1 := ⟨n - 1, by omega⟩
    obtain ⟨i1, i2, i3, i4, i5⟩ := id hI
    unfold V_X12_call_146
    refine ⟨fun c => absurd ((nI_leI (by omega) (by omega)).mp c) (by omega), fun _ => ?_⟩
    rw [nI_1, nI_add, nI_clamp (by omega), show (8 : Int32) = nI 8 from rfl, nI_mul, show (2 : Int32) = nI 2 from rfl, nI_add, nI_add, nI_clamp (by omega), i1 21 (by decide), hv j (by omega), nI_1]
    refine ⟨vp_in_nI (by omega) (by decide), vp_in_nI (by omega) (by decide), eqI (eqI (r_call146 hs hm hb hv kk l (j + 1) n _ (by omega) (by omega) ?_))⟩
    refine ⟨fun c hc => by rw [upB _ _ _ hc]; exact i1 c hc, ?_, ?_, fun t ht => ?_, fun t ht => ?_⟩
    · show upd (g 10) (8 * s + 2 + j) _ (8 * s) = _
      rw [updN _ _ (by omega)]; exact i2
    · show upd (g 10) (8 * s + 2 + j) _ (8 * s + 1) = _
      rw [updN _ _ (by omega)]; exact i3
    · show upd (g 10) (8 * s + 2 + j) _ (8 * s + 2 + t) = _
      by_cases e : t = j
      · subst e; rw [updE]
      · rw [updN _ _ (by omega)]; exact i4 t (by omega)
    · show upd (g 10) (8 * s + 2 + j) _ t = _
      rw [updN _ _ (by omega)]; exact i5 t ht
/-- the body's first part is asked for -/
theorem r_call213 {g : St} {k : StL} {i st e q r s n : Nat} {b9 : List Nat} {vv : List Va} {K : List Fr} {post : St → StL → Prop} (hx : XOK x) (hC : ∀ i, x.C i → rc i = x.r0 i) (hM : MW x cv cf sv rc hp out inp cn g k) (hK0 : g 0 12 = nI ((0, i, ([] : List Nat), st, e, q, vv) :: K).length ∧ g 0 20 = nI (1 + ncal K) ∧ FrM g ((0, i, [], st, e, q, vv) :: K) ∧ VlM g (vv ++ allv K) ∧ g 0 18 = 0) (hl : K.length < 1002) (hr : x.C r) (hL : Lst x.r0 (x.r0 r).2 b9) (hbC : ∀ y ∈ b9, x.C y) (hs : s < 168)
    (k1 : ∀ y r9, b9 = y :: r9 → ∀ g1, MW x cv cf sv rc hp out inp cn g1 k → MK ((33, i, r9, st, s + 1, q, []) :: K) g1 → g1 0 14 = enc (x.r0 y).1 → g1 0 15 = nI (s + 1) → g1 0 17 = 0 → post g1 k)
    (k0 : b9 = [] → ∀ g1, MW x cv cf sv rc hp out inp cn g1 k → MK K g1 → g1 0 16 = enc vnil → g1 0 17 = 1 → post g1 k) : V_X12_call_213 post n (nI (allv K).length) (enc (vrd r 0)) (nI s) g k := by
  obtain ⟨b1, b3, b4, b5, b6⟩ := hK0
  have hrn := hx.2.2.2.2.2.1
  have hrr := (hx.2.2.2.1 r hr).1
  have t1 : g 0 12 - 1 = nI K.length := top1 b1
  have ec : (nI K.length).toNatClampNeg = K.length := nI_clamp (by omega)
  have vi : vp_in (nI K.length) 1002 := vp_in_nI hl (by decide)
  have hin : ∀ y ∈ b9, y < 1100 := fun y hy => by have := (hx.2.2.2.1 y (hbC y hy)).1; omega
  obtain ⟨a1, a2, a3, a4, a5, a6, a7⟩ := b4
  have hM1 : MW x cv cf sv rc hp out inp cn (us g 13 (nI (allv K).length)) k := MW_us hM (by decide) (by decide) (by decide)
  have hM2 : MW x cv cf sv rc hp out inp cn (up (us g 13 (nI (allv K).length)) 15 K.length 32) k := MW_up hM1 (by decide) (by decide)
  have hM3 : MW x cv cf sv rc hp out inp cn (up (up (us g 13 (nI (allv K).length)) 15 K.length 32) 17 K.length (enc (hdl b9))) k := MW_up hM2 (by decide) (by decide)
  have hM4 : MW x cv cf sv rc hp out inp cn (up (up (up (us g 13 (nI (allv K).length)) 15 K.length 32) 17 K.length (enc (hdl b9))) 19 K.length (nI (s + 1))) k := MW_up hM3 (by decide) (by decide)
  unfold V_X12_call_213
  refine eqI ?_
  rw [show (us g 13 (nI (allv K).length)) 0 12 - 1 = nI K.length from t1, ec]
  refine ⟨vi, eqI (r_cdr1 hM2.2.2.2.1 hrr (by omega) (by decide) ?_)⟩
  rw [show (up (us g 13 (nI (allv K).length)) 15 K.length 32) 0 12 - 1 = nI K.length from t1, ec, hC r hr, enc_hdl hL]
  refine ⟨vi, eqI ?_⟩
  rw [show (up (up (us g 13 (nI (allv K).length)) 15 K.length 32) 17 K.length (enc (hdl b9))) 0 12 - 1 = nI K.length from t1, ec, nI_1]
  refine ⟨vi, eqI (r_cdr1 hM4.2.2.2.1 hrr (by omega) (by decide) ?_)⟩
  rw [hC r hr, enc_hdl hL]
  have hMK : MK ((33, i, b9, st, s + 1, q, []) :: K) (up (up (up (us g 13 (nI (allv K).length)) 15 K.length 32) 17 K.length (enc (hdl b9))) 19 K.length (nI (s + 1))) := by
    refine ⟨b1, rfl, b3, ⟨?_, fun c => absurd c (by decide), ?_, a4, ?_, a6, FrM_fr K (fun c c1 c2 t ht => ?_) a7⟩, VlM_fr (fun t ht => rfl) (VlM_tl b5), b6⟩
    · show upd (g 15) K.length 32 K.length = _
      rw [updE]; rfl
    · show upd (g 17) K.length _ K.length = _
      rw [updE]
    · show upd (g 19) K.length _ K.length = nI (if 33 = 33 then s + 1 else fe K)
      rw [updE, if_pos rfl]
    · have hcs : c = 15 ∨ c = 16 ∨ c = 17 ∨ c = 18 ∨ c = 19 ∨ c = 20 := by omega
      rcases hcs with rfl | rfl | rfl | rfl | rfl | rfl
      · show upd (g 15) K.length _ t = _
        rw [updN _ _ (by omega)]
      · rfl
      · show upd (g 17) K.length _ t = _
        rw [updN _ _ (by omega)]
      · rfl
      · show upd (g 19) K.length _ t = _
        rw [updN _ _ (by omega)]
      · rfl
  refine ⟨fun c => ?_, fun c => ?_⟩
  · cases b9 with
    | nil => exact absurd rfl c
    | cons y r9 => exact r_next hx hM4 hC hMK ⟨Lst_hdl hL, hbC⟩ hl (fun g1 m1 m2 m3 m4 m5 => k1 y r9 rfl g1 m1 m2 m3 m4 m5)
  · have eb := (hdl_nil hin).mp c
    subst eb
    exact r_pop hM4 hMK hl (by decide) (fun g1 m1 m2 m3 m4 m5 => k0 rfl g1 m1 m2 m3 m4)
end CB1
