-- ===== the class's instructions: the loop, and the small ones =====
def XC (x : Cx) (G0 : SG) (N : Nat) : Prop := XOK x ∧ N = 2048 + 2 * x.z ∧ G0 7 1 = x.c ∧ x.ft ≤ 1000
def cnU (cn : Nat → Int32) (j : Nat) (v : Int32) : Nat → Int32 := fun i => if i = j then v else cn i
/-- what is done behind an instruction -/
def AfA (N : Nat) (post : Int32 → SG → Prop) (n i : Nat) (p0 : Int32) (g_13 : SG) : Prop := (((g_13 4 0 3) ≤ 0 → ∀ x_15 : Int32, x_15 = nI i + (1 : Int32) → V_X7_run_32 N post n x_15 g_13) ∧ (¬ (g_13 4 0 3) ≤ 0 → ∀ g_16 : SG, g_16 = uo g_13 4 (us (g_13 4) 0 p0) → V_X7_keepLive N n  g_16 (fun g_18 => V_X2_hasRoom N (g_18 4 0 3) (g_18 2) (fun r_19 u_21 => ∀ g_20 : SG, g_20 = uo g_18 2 u_21 → ((r_19 = 0 → ∀ g_23 : SG, g_23 = uo g_20 4 (us (g_20 4) 2 (2 : Int32)) → ∀ x_24 : Int32, x_24 = nI i + (1 : Int32) → V_X7_run_32 N post n x_24 g_23) ∧ (¬ r_19 = 0 → ∀ g_25 : SG, g_25 = uo g_20 4 (us (g_20 4) 2 (0 : Int32)) → ∀ x_26 : Int32, x_26 = nI i + (1 : Int32) → V_X7_run_32 N post n x_26 g_25))))))
section INS
variable {x : Cx} {G0 G : SG} {N : Nat} {φ : Nat → Nat} {b lo hi : Nat} {sv : Nat → Option Va} {rc : Nat → Va × Va} {hp : Nat → Option Ob} {out : List Nat} {inp : List Int} {cn : Nat → Int32} {LV LC LK : List Gw} {p n i : Nat} {post : Int32 → SG → Prop}
theorem af0 {g : SG} {p0 : Int32} (h : g 4 0 3 = 0) (k : V_X7_run_32 N post n (nI (i + 1)) g) : AfA N post n i p0 g := by
  refine ⟨fun _ => eqI ?_, fun c => absurd (by rw [h]; exact Int32.le_refl 0) c⟩
  rw [nI_1]; exact k
theorem c_loop (hii : i < 1000000) (h1 : G 4 0 1 = 0) (h2 : G 4 0 2 = 0) (k : V_X7_advance N n (uo G 4 (us (G 4) 3 0)) (fun g => AfA N post n i (G 4 0 0) g)) : V_X7_run_32 N post (n + 1) (nI i) G := by
  unfold V_X7_run_32
  exact ⟨fun c => absurd ((nI_leI (a := 1000000) (b := i) (by decide) (by omega)).mp c) (by omega), fun _ => ⟨fun c => absurd h1 c, fun _ => ⟨fun c => absurd h2 c, fun _ => eqI (eqI k)⟩⟩⟩
theorem CG.c7 (hX : XC x G0 N) (h : CG x G0 φ b lo hi sv rc hp out inp cn LV LC LK p G) : G 7 1 = x.c := by
  rw [h.1.2.2.2.2.2.2.2.2.2.2.2.2.2.1 7 (by omega)]; exact hX.2.2.1
theorem CWd_4 {G1 : SG} (h : CWd x G0 φ b lo hi sv rc hp out inp cn G) (h0 : ∀ o, o ≠ 4 → o ≠ 9 → o ≠ 10 → o ≠ 11 → G1 o = G o) (h4 : ∀ j, j ≠ 0 → j ≠ 1 → j ≠ 2 → j ≠ 3 → G1 4 0 j = G 4 0 j) : CWd x G0 φ b lo hi sv rc hp out inp cn G1 := by
  obtain ⟨a1, a2, a3, a4, a5, a6, a7, a8, a9, a10, a11, a12, a13, a14, a15, a16⟩ := h
  have e1 := h0 1 (by decide) (by decide) (by decide) (by decide)
  have e2 := h0 2 (by decide) (by decide) (by decide) (by decide)
  have e5 := h0 5 (by decide) (by decide) (by decide) (by decide)
  have e6 := h0 6 (by decide) (by decide) (by decide) (by decide)
  refine ⟨by rw [e1]; exact a1, by rw [e2]; exact a2, by rw [e2]; exact a3, by rw [e2]; exact a4, by rw [e2]; exact a5, a6, by rw [e2]; exact a7, by rw [e6]; exact a8, by rw [e5]; exact a9, by rw [e2]; exact a10, by rw [e2]; exact a11, (h4 4 (by decide) (by decide) (by decide) (by decide)).trans a12, (h4 5 (by decide) (by decide) (by decide) (by decide)).trans a13, fun o ho => ?_, (h4 6 (by decide) (by decide) (by decide) (by decide)).trans a15, (h4 7 (by decide) (by decide) (by decide) (by decide)).trans a16⟩
  rw [h0 o (by omega) (by omega) (by omega) (by omega)]
  exact a14 o ho
theorem us4 (g : St) {m j : Nat} (w : Int32) (h : j ≠ m) : us g m w 0 j = g 0 j := by rw [us0, if_neg h]
theorem CGpc {p1 : Nat} (h : CG x G0 φ b lo hi sv rc hp out inp cn LV LC LK p G) : CG x G0 φ b lo hi sv rc hp out inp cn LV LC LK p1 (uo G 4 (us (G 4) 0 (nI p1))) := by
  obtain ⟨a, b1, b2, b3, b4, b5, b6⟩ := h
  refine ⟨CWd_4 a (fun o h4 _ _ _ => uoN h4) (fun j h0 _ _ _ => ?_), b1, b2, b3, rfl, b5, b6⟩
  show us (G 4) 0 (nI p1) 0 j = _
  exact us4 _ _ h0
theorem CGwt {w : Int32} (h : CG x G0 φ b lo hi sv rc hp out inp cn LV LC LK p G) : CG x G0 φ b lo hi sv rc hp out inp cn LV LC LK p (uo G 4 (us (G 4) 3 w)) := by
  obtain ⟨a, b1, b2, b3, b4, b5, b6⟩ := h
  refine ⟨CWd_4 a (fun o h4 _ _ _ => uoN h4) (fun j _ _ _ h3 => ?_), b1, b2, b3, b4, b5, b6⟩
  show us (G 4) 3 w 0 j = _
  exact us4 _ _ h3
theorem CG9 {u : St} {LV1 : List Gw} (h : CG x G0 φ b lo hi sv rc hp out inp cn LV LC LK p G) (hu : StkR u (LV1.map (gw φ))) : CG x G0 φ b lo hi sv rc hp out inp cn LV1 LC LK p (uo G 9 u) := by
  obtain ⟨a, b1, b2, b3, b4, b5, b6⟩ := h
  exact ⟨CWd_4 a (fun o _ h9 _ _ => uoN h9) (fun j _ _ _ _ => rfl), hu, b2, b3, b4, b5, b6⟩
theorem CG10 {u : St} {LC1 : List Gw} (h : CG x G0 φ b lo hi sv rc hp out inp cn LV LC LK p G) (hu : StkR u (LC1.map (gw φ))) : CG x G0 φ b lo hi sv rc hp out inp cn LV LC1 LK p (uo G 10 u) := by
  obtain ⟨a, b1, b2, b3, b4, b5, b6⟩ := h
  exact ⟨CWd_4 a (fun o _ _ h10 _ => uoN h10) (fun j _ _ _ _ => rfl), b1, hu, b3, b4, b5, b6⟩
theorem CG11 {u : St} {LK1 : List Gw} (h : CG x G0 φ b lo hi sv rc hp out inp cn LV LC LK p G) (hu : StkR u (LK1.map (gw φ))) : CG x G0 φ b lo hi sv rc hp out inp cn LV LC LK1 p (uo G 11 u) := by
  obtain ⟨a, b1, b2, b3, b4, b5, b6⟩ := h
  exact ⟨CWd_4 a (fun o _ _ _ h11 => uoN h11) (fun j _ _ _ _ => rfl), b1, b2, hu, b4, b5, b6⟩
/-- the three rows are within their bounds -/
def LB (LV LC LK : List Gw) : Prop := LV.length ≤ 1550 ∧ LC.length ≤ 60 ∧ LK.length ≤ 1488
/-- a fault -/
theorem CGflt {e : Nat} (h : CG x G0 φ b lo hi sv rc hp out inp cn LV LC LK p G) (hL : LB LV LC LK) : CE x G0 φ b lo hi sv rc hp out inp cn e (uo G 4 (us (G 4) 2 (nI e))) := by
  obtain ⟨a, b1, b2, b3, b4, b5, b6⟩ := h
  obtain ⟨l1, l2, l3⟩ := hL
  refine ⟨CWd_4 a (fun o h4 _ _ _ => uoN h4) (fun j _ _ h2 _ => ?_), rfl, LV.length, LC.length, LK.length, ?_, ?_, ?_, by omega, by omega, by omega⟩
  · show us (G 4) 2 (nI e) 0 j = _
    exact us4 _ _ h2
  · have := b1.1; rw [List.length_map] at this; exact this
  · have := b2.1; rw [List.length_map] at this; exact this
  · have := b3.1; rw [List.length_map] at this; exact this
theorem v_opd {R : Int32 → SG → Prop} (hX : XC x G0 N) (h : CG x G0 φ b lo hi sv rc hp out inp cn LV LC LK p G) (hpp : p < 1536) (k : ∀ G1, CG x G0 φ b lo hi sv rc hp out inp cn LV LC LK (p + 1) G1 → G1 4 0 3 = G 4 0 3 → (∀ o, o ≠ 4 → G1 o = G o) → R (x.c p) G1) : V_X7_operand N G R := by
  have h0 := h.2.2.2.2.1
  unfold V_X7_operand V_X1_at
  rw [h0]
  refine ⟨fun c => absurd c (nI_pos (by omega)), fun _ => ⟨fun c => absurd ((nI_leI (a := 1536) (b := p) (by decide) (by omega)).mp c) (by omega), fun _ => ⟨vp_in_nI hpp (by decide), eqI ?_⟩⟩⟩
  rw [nI_clamp (by omega), h.c7 hX, h0, nI_1]
  exact k _ (CGpc h) rfl (fun o ho => uoN ho)
theorem i_step (hX : XC x G0 N) (h : CG x G0 φ b lo hi sv rc hp out inp cn LV LC LK p G) (hii : i < 1000000) {st : Nat} (hs : cn 2 = nI st) (hst : st < 1000) (hpp : p < 1536) (c1 : x.c p = 1) (k : ∀ G1, CG x G0 φ b lo hi sv rc hp out inp (cnU cn 2 (nI (st + 1))) LV LC LK (p + 1) G1 → V_X7_run_32 N post n (nI (i + 1)) G1) : V_X7_run_32 N post (n + 1) (nI i) G := by
  refine c_loop hii h.2.2.2.2.2.1 h.2.2.2.2.2.2 ?_
  have ha := CGwt (w := 0) h
  unfold V_X7_advance
  refine v_opd hX ha (by omega) (fun G1 h1 w1 o1 => ?_)
  rw [c1]
  refine ⟨fun _ => ?_, fun c => absurd c (by decide), fun c => absurd c (by decide), fun c => absurd c (by decide), fun c => absurd c (by decide), fun c => absurd c (by decide), fun c => absurd c (by decide), fun c => absurd c (by decide), fun c => absurd c (by decide), fun c => absurd c (by decide), fun c => absurd c (by decide), fun c => absurd c (by decide), fun c => absurd c (by decide), fun c => absurd c (by decide), fun c => absurd c (by decide), fun c1 c2 c3 c4 c5 c6 c7 c8 c9 c10 c11 c12 c13 c14 c15 => absurd rfl c1⟩
  unfold V_X7_countStep
  have e4 : G1 4 0 4 = nI st := h1.1.2.2.2.2.2.2.2.2.2.2.2.1.trans hs
  rw [e4]
  refine ⟨fun _ => eqI (af0 w1 (k _ ?_)), fun c => absurd (nI_lt (b := 1000) hst (by decide)) c⟩
  obtain ⟨⟨a1, a2, a3, a4, a5, a6, a7, a8, a9, a10, a11, a12, a13, a14, a15, a16⟩, b1, b2, b3, b4, b5, b6⟩ := h1
  refine ⟨⟨a1, a2, a3, a4, a5, a6, a7, a8, a9, a10, a11, ?_, a13, fun o ho => ?_, a15, a16⟩, b1, b2, b3, b4, b5, b6⟩
  · show nI st + 1 = nI (st + 1)
    exact nI_1 st
  · rw [uoN (by omega)]; exact a14 o ho
theorem i_stepX (hX : XC x G0 N) (h : CG x G0 φ b lo hi sv rc hp out inp cn LV LC LK p G) (hii : i < 1000000) (hs : cn 2 = nI 1000) (hL : LB LV LC LK) (hpp : p < 1536) (c1 : x.c p = 1) (k : ∀ G1, CE x G0 φ b lo hi sv rc hp out inp cn 2 G1 → V_X7_run_32 N post n (nI (i + 1)) G1) : V_X7_run_32 N post (n + 1) (nI i) G := by
  refine c_loop hii h.2.2.2.2.2.1 h.2.2.2.2.2.2 ?_
  have ha := CGwt (w := 0) h
  unfold V_X7_advance
  refine v_opd hX ha (by omega) (fun G1 h1 w1 o1 => ?_)
  rw [c1]
  refine ⟨fun _ => ?_, fun c => absurd c (by decide), fun c => absurd c (by decide), fun c => absurd c (by decide), fun c => absurd c (by decide), fun c => absurd c (by decide), fun c => absurd c (by decide), fun c => absurd c (by decide), fun c => absurd c (by decide), fun c => absurd c (by decide), fun c => absurd c (by decide), fun c => absurd c (by decide), fun c => absurd c (by decide), fun c => absurd c (by decide), fun c => absurd c (by decide), fun c1 c2 c3 c4 c5 c6 c7 c8 c9 c10 c11 c12 c13 c14 c15 => absurd rfl c1⟩
  unfold V_X7_countStep
  have e4 : G1 4 0 4 = nI 1000 := h1.1.2.2.2.2.2.2.2.2.2.2.2.1.trans hs
  rw [e4]
  exact ⟨fun c => absurd c (by decide), fun _ => eqI (af0 w1 (k _ (CGflt h1 hL)))⟩
theorem i_word (hX : XC x G0 N) (h : CG x G0 φ b lo hi sv rc hp out inp cn LV LC LK p G) (hii : i < 1000000) {y : Gw} (hpp : p + 1 < 1536) (c1 : x.c p = 2) (c2 : x.c (p + 1) = gw φ y) (hl : LV.length < 1550) (k : ∀ G1, CG x G0 φ b lo hi sv rc hp out inp cn (y :: LV) LC LK (p + 2) G1 → V_X7_run_32 N post n (nI (i + 1)) G1) : V_X7_run_32 N post (n + 1) (nI i) G := by
  refine c_loop hii h.2.2.2.2.2.1 h.2.2.2.2.2.2 ?_
  have ha := CGwt (w := 0) h
  unfold V_X7_advance
  refine v_opd hX ha (by omega) (fun G1 h1 w1 o1 => ?_)
  rw [c1]
  refine ⟨fun c => absurd c (by decide), fun _ => ?_, fun c => absurd c (by decide), fun c => absurd c (by decide), fun c => absurd c (by decide), fun c => absurd c (by decide), fun c => absurd c (by decide), fun c => absurd c (by decide), fun c => absurd c (by decide), fun c => absurd c (by decide), fun c => absurd c (by decide), fun c => absurd c (by decide), fun c => absurd c (by decide), fun c => absurd c (by decide), fun c => absurd c (by decide), fun c1 c2 c3 c4 c5 c6 c7 c8 c9 c10 c11 c12 c13 c14 c15 => absurd rfl c2⟩
  refine v_opd hX h1 (by omega) (fun G2 h2 w2 o2 => ?_)
  rw [c2]
  refine v_push h2.2.1 (by rw [List.length_map]; exact hl) (by decide) (fun u hu => eqI (af0 (w2.trans w1) (k _ (CG9 h2 hu))))
theorem i_drop (hX : XC x G0 N) (h : CG x G0 φ b lo hi sv rc hp out inp cn LV LC LK p G) (hii : i < 1000000) {y : Gw} {LV1 : List Gw} (hv : LV = y :: LV1) (hpp : p < 1536) (c1 : x.c p = 7) (hl : LV1.length < 1550) (k : ∀ G1, CG x G0 φ b lo hi sv rc hp out inp cn LV1 LC LK (p + 1) G1 → V_X7_run_32 N post n (nI (i + 1)) G1) : V_X7_run_32 N post (n + 1) (nI i) G := by
  refine c_loop hii h.2.2.2.2.2.1 h.2.2.2.2.2.2 ?_
  have ha := CGwt (w := 0) h
  unfold V_X7_advance
  refine v_opd hX ha (by omega) (fun G1 h1 w1 o1 => ?_)
  rw [c1]
  refine ⟨fun c => absurd c (by decide), fun c => absurd c (by decide), fun c => absurd c (by decide), fun c => absurd c (by decide), fun c => absurd c (by decide), fun c => absurd c (by decide), fun _ => ?_, fun c => absurd c (by decide), fun c => absurd c (by decide), fun c => absurd c (by decide), fun c => absurd c (by decide), fun c => absurd c (by decide), fun c => absurd c (by decide), fun c => absurd c (by decide), fun c => absurd c (by decide), fun c1 c2 c3 c4 c5 c6 c7 c8 c9 c10 c11 c12 c13 c14 c15 => absurd rfl c7⟩
  subst hv
  refine v_pop (l := LV1.map (gw φ)) h1.2.1 (by rw [List.length_map]; exact hl) (by decide) (fun u hu => eqI (af0 w1 (k _ (CG9 h1 hu))))
theorem i_jump (hX : XC x G0 N) (h : CG x G0 φ b lo hi sv rc hp out inp cn LV LC LK p G) (hii : i < 1000000) {q : Nat} (hpp : p + 1 < 1536) (c1 : x.c p = 8) (c2 : x.c (p + 1) = nI q) (k : ∀ G1, CG x G0 φ b lo hi sv rc hp out inp cn LV LC LK q G1 → V_X7_run_32 N post n (nI (i + 1)) G1) : V_X7_run_32 N post (n + 1) (nI i) G := by
  refine c_loop hii h.2.2.2.2.2.1 h.2.2.2.2.2.2 ?_
  have ha := CGwt (w := 0) h
  unfold V_X7_advance
  refine v_opd hX ha (by omega) (fun G1 h1 w1 o1 => ?_)
  rw [c1]
  refine ⟨fun c => absurd c (by decide), fun c => absurd c (by decide), fun c => absurd c (by decide), fun c => absurd c (by decide), fun c => absurd c (by decide), fun c => absurd c (by decide), fun c => absurd c (by decide), fun _ => ?_, fun c => absurd c (by decide), fun c => absurd c (by decide), fun c => absurd c (by decide), fun c => absurd c (by decide), fun c => absurd c (by decide), fun c => absurd c (by decide), fun c => absurd c (by decide), fun c1 c2 c3 c4 c5 c6 c7 c8 c9 c10 c11 c12 c13 c14 c15 => absurd rfl c8⟩
  refine v_opd hX h1 (by omega) (fun G2 h2 w2 o2 => ?_)
  rw [c2]
  exact eqI (af0 (w2.trans w1) (k _ (CGpc h2)))
theorem i_jin (hX : XC x G0 N) (h : CG x G0 φ b lo hi sv rc hp out inp cn LV LC LK p G) (hii : i < 1000000) {q : Nat} {y : Gw} {LV1 : List Gw} (hv : LV = y :: LV1) (hpp : p + 1 < 1536) (c1 : x.c p = 9) (c2 : x.c (p + 1) = nI q) (hl : LV1.length < 1550) (k1 : gw φ y = 1 → ∀ G1, CG x G0 φ b lo hi sv rc hp out inp cn LV1 LC LK q G1 → V_X7_run_32 N post n (nI (i + 1)) G1) (k0 : ¬ gw φ y = 1 → ∀ G1, CG x G0 φ b lo hi sv rc hp out inp cn LV1 LC LK (p + 2) G1 → V_X7_run_32 N post n (nI (i + 1)) G1) : V_X7_run_32 N post (n + 1) (nI i) G := by
  refine c_loop hii h.2.2.2.2.2.1 h.2.2.2.2.2.2 ?_
  have ha := CGwt (w := 0) h
  unfold V_X7_advance
  refine v_opd hX ha (by omega) (fun G1 h1 w1 o1 => ?_)
  rw [c1]
  refine ⟨fun c => absurd c (by decide), fun c => absurd c (by decide), fun c => absurd c (by decide), fun c => absurd c (by decide), fun c => absurd c (by decide), fun c => absurd c (by decide), fun c => absurd c (by decide), fun c => absurd c (by decide), fun _ => ?_, fun c => absurd c (by decide), fun c => absurd c (by decide), fun c => absurd c (by decide), fun c => absurd c (by decide), fun c => absurd c (by decide), fun c => absurd c (by decide), fun c1 c2 c3 c4 c5 c6 c7 c8 c9 c10 c11 c12 c13 c14 c15 => absurd rfl c9⟩
  subst hv
  refine v_opd hX h1 (by omega) (fun G2 h2 w2 o2 => ?_)
  rw [c2]
  unfold V_X7_jumpIfNil
  refine v_pop (l := LV1.map (gw φ)) h2.2.1 (by rw [List.length_map]; exact hl) (by decide) (fun u hu => eqI ⟨fun c => af0 (w2.trans w1) (k0 c _ (CG9 h2 hu)), fun c => eqI (af0 (w2.trans w1) (k1 c _ (CGpc (CG9 h2 hu))))⟩)
theorem i_ret (hX : XC x G0 N) (h : CG x G0 φ b lo hi sv rc hp out inp cn LV LC LK p G) (hii : i < 1000000) {q : Nat} {y : Gw} {LC1 : List Gw} (hv : LC = gv (vnum (q : Int)) :: y :: LC1) (hpp : p < 1536) (c1 : x.c p = 11) (hq : q < 100000) (hl : LC1.length < 59) (k : ∀ G1, CG x G0 φ b lo hi sv rc hp out inp cn LV LC1 LK q G1 → V_X7_run_32 N post n (nI (i + 1)) G1) : V_X7_run_32 N post (n + 1) (nI i) G := by
  refine c_loop hii h.2.2.2.2.2.1 h.2.2.2.2.2.2 ?_
  have ha := CGwt (w := 0) h
  unfold V_X7_advance
  refine v_opd hX ha (by omega) (fun G1 h1 w1 o1 => ?_)
  rw [c1]
  refine ⟨fun c => absurd c (by decide), fun c => absurd c (by decide), fun c => absurd c (by decide), fun c => absurd c (by decide), fun c => absurd c (by decide), fun c => absurd c (by decide), fun c => absurd c (by decide), fun c => absurd c (by decide), fun c => absurd c (by decide), fun c => absurd c (by decide), fun _ => ?_, fun c => absurd c (by decide), fun c => absurd c (by decide), fun c => absurd c (by decide), fun c => absurd c (by decide), fun c1 c2 c3 c4 c5 c6 c7 c8 c9 c10 c11 c12 c13 c14 c15 => absurd rfl c11⟩
  unfold V_X7_advanceControl
  refine ⟨fun c => absurd c (by decide), fun _ => ?_, fun c => absurd c (by decide), fun c => absurd c (by decide), fun c => absurd c (by decide), fun c => absurd c (by decide), fun c => absurd c (by decide), fun c10 c11 c12 c13 c14 c15 c16 => absurd rfl c11⟩
  subst hv
  refine v_pop (w := wd 2 (q : Int)) (l := gw φ y :: LC1.map (gw φ)) h1.2.2.1 (by rw [List.length_cons, List.length_map]; omega) (by decide) (fun u hu => eqI ?_)
  refine v_held (t := 2) (h := (q : Int)) (by decide) (by omega) (by omega) (eqI ?_)
  rw [iI_nat]
  refine v_pop (w := gw φ y) (l := LC1.map (gw φ)) (g := u) hu (by rw [List.length_map]; omega) (by decide) (fun u2 hu2 => eqI (af0 w1 (k _ ?_)))
  exact CG10 (CGpc (CG10 (LC1 := y :: LC1) h1 hu)) hu2
theorem i_catch (hX : XC x G0 N) (h : CG x G0 φ b lo hi sv rc hp out inp cn LV LC LK p G) (hii : i < 1000000) {q : Nat} {y : Gw} {LV1 : List Gw} (hv : LV = y :: LV1) (hpp : p + 1 < 1536) (c1 : x.c p = 12) (c2 : x.c (p + 1) = nI q) (hl : LV1.length < 1550) (hl2 : LK.length + 4 ≤ 1488) (k : ∀ G1, CG x G0 φ b lo hi sv rc hp out inp cn LV1 LC (gv (vnum (q : Int)) :: gv (vnum (LC.length : Int)) :: gv (vnum (LV1.length : Int)) :: y :: LK) (p + 2) G1 → V_X7_run_32 N post n (nI (i + 1)) G1) : V_X7_run_32 N post (n + 1) (nI i) G := by
  refine c_loop hii h.2.2.2.2.2.1 h.2.2.2.2.2.2 ?_
  have ha := CGwt (w := 0) h
  unfold V_X7_advance
  refine v_opd hX ha (by omega) (fun G1 h1 w1 o1 => ?_)
  rw [c1]
  refine ⟨fun c => absurd c (by decide), fun c => absurd c (by decide), fun c => absurd c (by decide), fun c => absurd c (by decide), fun c => absurd c (by decide), fun c => absurd c (by decide), fun c => absurd c (by decide), fun c => absurd c (by decide), fun c => absurd c (by decide), fun c => absurd c (by decide), fun c => absurd c (by decide), fun _ => ?_, fun c => absurd c (by decide), fun c => absurd c (by decide), fun c => absurd c (by decide), fun c1 c2 c3 c4 c5 c6 c7 c8 c9 c10 c11 c12 c13 c14 c15 => absurd rfl c12⟩
  unfold V_X7_advanceControl
  refine ⟨fun c => absurd c (by decide), fun c => absurd c (by decide), fun _ => ?_, fun c => absurd c (by decide), fun c => absurd c (by decide), fun c => absurd c (by decide), fun c => absurd c (by decide), fun c10 c11 c12 c13 c14 c15 c16 => absurd rfl c12⟩
  subst hv
  refine v_opd hX h1 (by omega) (fun G2 h2 w2 o2 => ?_)
  rw [c2]
  unfold V_X7_beginCatch
  refine v_pop (l := LV1.map (gw φ)) h2.2.1 (by rw [List.length_map]; exact hl) (by decide) (fun u hu => eqI ?_)
  have h3 := CG9 (LV1 := LV1) h2 hu
  refine v_push h3.2.2.2.1 (by rw [List.length_map]; omega) (by decide) (fun u2 hu2 => eqI ?_)
  have h4 := CG11 (LK1 := y :: LK) h3 hu2
  have e9 : (uo (uo G2 9 u) 11 u2) 9 0 0 = iI (LV1.length : Int) := by rw [iI_nat]; have := h4.2.1.1; rw [List.length_map] at this; exact this
  rw [e9]
  refine v_of (t := 2) (by decide) ?_
  refine v_push h4.2.2.2.1 (by rw [List.length_map]; show LK.length + 1 < 1488; omega) (by decide) (fun u3 hu3 => eqI ?_)
  have h5 := CG11 (LK1 := gv (vnum (LV1.length : Int)) :: y :: LK) h4 hu3
  have e10 : (uo (uo (uo G2 9 u) 11 u2) 11 u3) 10 0 0 = iI (LC.length : Int) := by rw [iI_nat]; have := h5.2.2.1.1; rw [List.length_map] at this; exact this
  rw [e10]
  refine v_of (t := 2) (by decide) ?_
  refine v_push h5.2.2.2.1 (by rw [List.length_map]; show LK.length + 2 < 1488; omega) (by decide) (fun u4 hu4 => eqI ?_)
  have h6 := CG11 (LK1 := gv (vnum (LC.length : Int)) :: gv (vnum (LV1.length : Int)) :: y :: LK) h5 hu4
  rw [← iI_nat q]
  refine v_of (t := 2) (by decide) ?_
  refine v_push h6.2.2.2.1 (by rw [List.length_map]; show LK.length + 3 < 1488; omega) (by decide) (fun u5 hu5 => eqI (af0 (w2.trans w1) (k _ ?_)))
  exact CG11 (LK1 := gv (vnum (q : Int)) :: gv (vnum (LC.length : Int)) :: gv (vnum (LV1.length : Int)) :: y :: LK) h6 hu5
theorem i_endc (hX : XC x G0 N) (h : CG x G0 φ b lo hi sv rc hp out inp cn LV LC LK p G) (hii : i < 1000000) {y1 y2 y3 y4 : Gw} {LK1 : List Gw} (hv : LK = y1 :: y2 :: y3 :: y4 :: LK1) (hpp : p < 1536) (c1 : x.c p = 13) (hl : LK.length ≤ 1488) (k : ∀ G1, CG x G0 φ b lo hi sv rc hp out inp cn LV LC LK1 (p + 1) G1 → V_X7_run_32 N post n (nI (i + 1)) G1) : V_X7_run_32 N post (n + 1) (nI i) G := by
  refine c_loop hii h.2.2.2.2.2.1 h.2.2.2.2.2.2 ?_
  have ha := CGwt (w := 0) h
  unfold V_X7_advance
  refine v_opd hX ha (by omega) (fun G1 h1 w1 o1 => ?_)
  rw [c1]
  refine ⟨fun c => absurd c (by decide), fun c => absurd c (by decide), fun c => absurd c (by decide), fun c => absurd c (by decide), fun c => absurd c (by decide), fun c => absurd c (by decide), fun c => absurd c (by decide), fun c => absurd c (by decide), fun c => absurd c (by decide), fun c => absurd c (by decide), fun c => absurd c (by decide), fun c => absurd c (by decide), fun _ => ?_, fun c => absurd c (by decide), fun c => absurd c (by decide), fun c1 c2 c3 c4 c5 c6 c7 c8 c9 c10 c11 c12 c13 c14 c15 => absurd rfl c13⟩
  unfold V_X7_advanceControl
  refine ⟨fun c => absurd c (by decide), fun c => absurd c (by decide), fun c => absurd c (by decide), fun _ => ?_, fun c => absurd c (by decide), fun c => absurd c (by decide), fun c => absurd c (by decide), fun c10 c11 c12 c13 c14 c15 c16 => absurd rfl c13⟩
  subst hv
  have hl : LK1.length + 4 ≤ 1488 := hl
  have e11 : G1 11 0 0 - 4 = nI LK1.length := by
    have := h1.2.2.2.1.1
    rw [List.length_map] at this
    rw [this, show (4 : Int32) = nI 4 from rfl, nI_sub (by show 4 ≤ LK1.length + 4; omega)]
    rfl
  rw [e11]
  refine v_cut h1.2.2.2.1 (by rw [List.length_map]; show LK1.length ≤ LK1.length + 4; omega) (by rw [List.length_map]; show LK1.length + 4 < 2 ^ 31; omega) (fun u hu => eqI (af0 w1 (k _ (CG11 h1 ?_))))
  have e : (List.map (gw φ) (y1 :: y2 :: y3 :: y4 :: LK1)).drop ((List.map (gw φ) (y1 :: y2 :: y3 :: y4 :: LK1)).length - LK1.length) = LK1.map (gw φ) := by
    rw [List.length_map, show (y1 :: y2 :: y3 :: y4 :: LK1).length - LK1.length = 4 by show LK1.length + 4 - LK1.length = 4; omega]
    rfl
  rw [e] at hu
  exact hu
theorem i_halt (hX : XC x G0 N) (h : CG x G0 φ b lo hi sv rc hp out inp cn LV LC LK p G) (hii : i < 1000000) (hpp : p < 1536) (c1 : x.c p = 0) (k : ∀ G1 : SG, CWd x G0 φ b lo hi sv rc hp out inp cn G1 → StkR (G1 9) (LV.map (gw φ)) → StkR (G1 10) (LC.map (gw φ)) → StkR (G1 11) (LK.map (gw φ)) → G1 4 0 1 = 1 → G1 4 0 2 = 0 → V_X7_run_32 N post n (nI (i + 1)) G1) : V_X7_run_32 N post (n + 1) (nI i) G := by
  refine c_loop hii h.2.2.2.2.2.1 h.2.2.2.2.2.2 ?_
  have ha := CGwt (w := 0) h
  unfold V_X7_advance
  refine v_opd hX ha (by omega) (fun G1 h1 w1 o1 => ?_)
  rw [c1]
  refine ⟨fun c => absurd c (by decide), fun c => absurd c (by decide), fun c => absurd c (by decide), fun c => absurd c (by decide), fun c => absurd c (by decide), fun c => absurd c (by decide), fun c => absurd c (by decide), fun c => absurd c (by decide), fun c => absurd c (by decide), fun c => absurd c (by decide), fun c => absurd c (by decide), fun c => absurd c (by decide), fun c => absurd c (by decide), fun c => absurd c (by decide), fun c => absurd c (by decide), fun _ _ _ _ _ _ _ _ _ _ _ _ _ _ _ => ?_⟩
  unfold V_X7_advanceControl
  refine ⟨fun c => absurd c (by decide), fun c => absurd c (by decide), fun c => absurd c (by decide), fun c => absurd c (by decide), fun c => absurd c (by decide), fun c => absurd c (by decide), fun c => absurd c (by decide), fun _ _ _ _ _ _ _ => ?_⟩
  refine eqI (af0 w1 (k _ ?_ h1.2.1 h1.2.2.1 h1.2.2.2.1 rfl h1.2.2.2.2.2.2))
  refine CWd_4 h1.1 (fun o h4 _ _ _ => uoN h4) (fun j _ hj1 _ _ => ?_)
  show us (G1 4) 1 1 0 j = _
  exact us4 _ _ hj1
/-- jumps, one after the other -/
theorem i_chain : ∀ (m p q n i : Nat) (G : SG), XC x G0 N → Chn x m p q → CG x G0 φ b lo hi sv rc hp out inp cn LV LC LK p G → i + m < 1000000 → (∀ G1 n1 i1, CG x G0 φ b lo hi sv rc hp out inp cn LV LC LK q G1 → n ≤ n1 → i1 ≤ i + m → V_X7_run_32 N post n1 (nI i1) G1) → V_X7_run_32 N post (n + m) (nI i) G
  | 0, p, q, n, i, G, hX, hc, h, hii, k => by
    have e : p = q := hc
    subst e
    exact k G n i h (Nat.le_refl _) (Nat.le_refl _)
  | m + 1, p, q, n, i, G, hX, hc, h, hii, k => by
    rcases hc with e | ⟨a1, a2, r, a3, a4, a5⟩
    · subst e
      exact k G (n + (m + 1)) i h (by omega) (by omega)
    · have hpt := hX.1.2.2.2.2.2.2
      refine i_jump (n := n + m) hX h (by omega) (q := r) (by omega) a2 a3 (fun G1 h1 => ?_)
      exact i_chain m r q n (i + 1) G1 hX a5 h1 (by omega) (fun G2 n1 i1 h2 b1 b2 => k G2 n1 i1 h2 b1 (by omega))
end INS
