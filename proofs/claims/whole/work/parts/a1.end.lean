-- ===== the end of a run =====
section EN
variable {x : Cx} {G0 G : SG} {N : Nat} {cv cf : Int32} {φ : Nat → Nat} {b lo hi : Nat} {sv : Nat → Option Va} {rc : Nat → Va × Va} {hp : Nat → Option Ob} {out : List Nat} {inp : List Int} {cn : Nat → Int32} {j bt h8 : Nat} {c4 c5 : Int32}
/-- the class's state when all is over -/
def CFin (x : Cx) (G0 : SG) (φ : Nat → Nat) (b lo hi : Nat) (sv : Nat → Option Va) (rc : Nat → Va × Va) (hp : Nat → Option Ob) (out : List Nat) (inp : List Int) (cn : Nat → Int32) (c4 c5 : Int32) (G : SG) : Prop := SymC (G 1) x.sy x.nam sv φ ∧ RdC (G 2) rc x.rn x.rn x.ft φ x.K lo hi ∧ HpC (G 2 1) hp φ x.ent b (usum hp 168) ∧ G 2 0 8 = nI (usum hp 168) ∧ G 2 0 5 = nI b ∧ (b = 2048 ∨ b = 2048 + x.z) ∧ G 2 0 0 = nI x.z ∧ QuR 200 (G 6) (out.map nI) ∧ QuR 8 (G 5) (inp.map iI) ∧ G 2 0 10 = cn 0 ∧ G 2 0 9 = cn 1 ∧ G 4 0 4 = cn 2 ∧ G 4 0 5 = cn 3 ∧ (∀ o, o = 0 ∨ o = 3 ∨ o = 7 ∨ o = 8 → G o = G0 o) ∧ G 4 0 6 = c4 ∧ G 4 0 7 = c5 ∧ StkR (G 9) [] ∧ StkR (G 10) [] ∧ StkR (G 11) []
/-- what is fixed of the run's first state -/
def CS0 (x : Cx) (G0 : SG) (j bt : Nat) : Prop := j ≤ 64 ∧ x.rn ≤ 2 * j ∧ bt ≤ 2 * j ∧ x.tp ≤ 8 * bt ∧ G0 0 0 0 = nI j ∧ G0 3 0 1 = 0 ∧ G0 3 0 0 = 0 ∧ G0 7 0 0 = nI x.tp ∧ ∃ h, h ≤ 12 ∧ G0 8 0 0 = nI h
theorem e_inv {g g1 : St} {k : StL} {f : Nat → Int64} (hX : XC x G0 N) (h0 : CS0 x G0 j bt) (hW : PW x sv rc hp out inp) (hC : CFin x G0 φ b lo hi sv rc hp out inp cn c4 c5 G) (hM : MW x c4 c5 sv rc hp out inp cn g k) (hr : ∀ c, c ≠ 0 → g1 c = g c) (hs : ∀ i, i ≠ 0 → i ≠ 12 → i ≠ 13 → g1 0 i = g 0 i) (h12 : g1 0 12 = 0) (h13 : g1 0 13 = 0) : Inv j N G g1 k f := by
  obtain ⟨s1, s2, s3, s4, s5, s6, s7, s8, h, s9, s10⟩ := h0
  obtain ⟨w1, w2, w3, w4, w5, w6, w7, w8, w9⟩ := hW
  obtain ⟨a1, a2, a3, a4, a5, a6, a7, a8, a9, a10, a11, a12, a13, a14, a15, a16, a17, a18, a19⟩ := hC
  obtain ⟨m1, m2, m3, m4, m5, m6, m7, m8, m9, m10, m11, m12, m13, m14, m15, m16, m17⟩ := hM
  have e7 : G 7 = G0 7 := a14 7 (by omega)
  refine Inv_of j N x.z x.sy x.nam sv rc x.rn x.ft x.K x.C lo hi hp φ b (usum hp 168) x.ent x.tp out inp bt (fun i => ([cn 0, cn 1, cn 2, cn 3, c4, c5] : List Int32).getD i 0) ?_ ?_ ?_
  · refine ⟨s1, hX.1.1, hX.1.2.1, hX.1.2.2.1, w1, w2, fun i hi => ?_, w4, rfl, w7, w8.2, w9.2, s2, s3⟩
    rw [w3 i hi]
    exact hX.1.2.2.2.1 i hi
  · refine ⟨hX.2.1, ?_, a7, a1, a2, a3, fun s o ho => ?_, a4, a5, a6, ?_, s4, ?_, ?_, a8, a9, ⟨a10, a11, a12, a13, a15, a16⟩, a17, a18, a19, h, s9, ?_⟩
    · rw [a14 0 (by omega)]; exact s5
    · rw [e7, hX.2.2.1]
      exact ObR_tr2 (Nat.le_refl _) (fun _ _ => rfl) (fun i hi => ⟨hi, w3 i hi⟩) (fun i hi => rfl) (fun _ h => h) (fun _ _ => rfl) o (fun v _ hv => hv) (fun sc he => EnvR_tr (fun i hi => ⟨hi, w3 i hi⟩) (fun s p q l h => ⟨l, h, rfl⟩) sc _ he) (w6 s o ho).2
    · rw [e7]; exact s8
    · rw [a14 3 (by omega)]; exact s6
    · rw [a14 3 (by omega)]; exact s7
    · rw [a14 8 (by omega)]; exact s10
  · have q : ∀ i, i ≠ 0 → i ≠ 12 → i ≠ 13 → ∀ w, g 0 i = w → g1 0 i = w := fun i i0 i1 i2 w hw => (hs i i0 i1 i2).trans hw
    refine ⟨q 1 (by decide) (by decide) (by decide) _ m1, fun i hi => ?_, ?_, ?_, fun s hs => ?_, q 4 (by decide) (by decide) (by decide) _ m6, q 7 (by decide) (by decide) (by decide) _ m7, q 8 (by decide) (by decide) (by decide) _ m8, ⟨q 24 (by decide) (by decide) (by decide) _ m9.1, fun i hi => ?_⟩, ⟨q 25 (by decide) (by decide) (by decide) _ m10.1, fun i hi => ?_⟩, q 5 (by decide) (by decide) (by decide) _ m11, q 6 (by decide) (by decide) (by decide) _ m12, q 19 (by decide) (by decide) (by decide) _ m13, q 21 (by decide) (by decide) (by decide) _ m14, q 22 (by decide) (by decide) (by decide) _ m15, q 23 (by decide) (by decide) (by decide) _ m16, h12, h13⟩
    · rw [hr 4 (by decide), hr 5 (by decide)]; exact m2 i hi
    · rw [hs 2 (by decide) (by decide) (by decide), hr 1 (by decide), hr 2 (by decide), hr 3 (by decide)]; exact m3
    · refine ⟨q 3 (by decide) (by decide) (by decide) _ m4.1, fun i hi => ?_⟩
      rw [hr 6 (by decide), hr 7 (by decide)]; exact m4.2 i hi
    · rw [hr 8 (by decide), hr 9 (by decide), hr 10 (by decide)]; exact m5 s hs
    · rw [hr 23 (by decide)]; exact m9.2 i hi
    · rw [hr 24 (by decide)]; exact m10.2 i hi
/-- the class's last steps: a fault -/
theorem e_clsE {e n i : Nat} {post : Int32 → SG → Prop} (he : 0 < e) (he2 : e ≤ 6) (hii : i < 1000000) (h : CE x G0 φ b lo hi sv rc hp out inp cn e G) (k : ∀ G1, CFin x G0 φ b lo hi sv rc hp out inp cn (G0 4 0 6) (G0 4 0 7 + 1) G1 → post (nI e) G1) : V_X7_run_32 N post (n + 1) (nI i) G := by
  obtain ⟨⟨a1, a2, a3, a4, a5, a6, a7, a8, a9, a10, a11, a12, a13, a14, a15, a16⟩, f2, h9, h10, h11, e9, e10, e11, l9, l10, l11⟩ := h
  have nz : ¬ G 4 0 2 = 0 := by
    rw [f2]
    exact fun c => absurd ((nI_eq (b := 0) (by omega) (by decide)).mp c) (by omega)
  have fin : V_X7_end N G (fun g_3 => post (g_3 4 0 2) g_3) := by
    unfold V_X7_end
    refine ⟨fun _ => eqI ?_, fun c => absurd c nz⟩
    refine v_cut0 (g := G 9) e9 (by omega) (fun u9 hu9 => eqI ?_)
    refine v_cut0 (g := G 10) e10 (by omega) (fun u10 hu10 => eqI ?_)
    refine v_cut0 (g := G 11) e11 (by omega) (fun u11 hu11 => eqI ?_)
    have e42 : (uo (uo (uo (uo G 4 (us (G 4) 7 (G 4 0 7 + 1))) 9 u9) 10 u10) 11 u11) 4 0 2 = nI e := f2
    rw [e42]
    refine k _ ⟨a1, a2, a3, a4, a5, a6, a7, a8, a9, a10, a11, a12, a13, fun o ho => ?_, a15, ?_, hu9, hu10, hu11⟩
    · rw [uoN (by omega), uoN (by omega), uoN (by omega), uoN (by omega)]; exact a14 o ho
    · show G 4 0 7 + 1 = _
      rw [a16]
  unfold V_X7_run_32
  exact ⟨fun c => absurd ((nI_leI (a := 1000000) (b := i) (by decide) (by omega)).mp c) (by omega), fun _ => ⟨fun _ => fin, fun _ => ⟨fun _ => fin, fun c => absurd c nz⟩⟩⟩
/-- the class's last steps: a value -/
theorem e_clsV {p n i : Nat} {v : Va} {post : Int32 → SG → Prop} (hX : XC x G0 N) (hW : PW x sv rc hp out inp) (hv : VV x.K x.C hp v) (hii : i + 20 < 1000000) (hn : 20 ≤ n) (hK : ∃ sc, Cn x hp [] p 1 sc) (h : CG x G0 φ b lo hi sv rc hp out inp cn [gv v] [] [] p G) (k : ∀ G1, CFin x G0 φ b lo hi (svU sv 1 v) rc hp out inp cn (G0 4 0 6 + 1) (G0 4 0 7) G1 → CAns (vkd v) G1 → post (nI 0) G1) : V_X7_run_32 N post n (nI i) G := by
  obtain ⟨sc, -, -, p1, hch, hp1, c0⟩ := hK
  have htp := hX.1.2.2.2.2.2.2
  have hNm := hX.1.2.2.1
  obtain ⟨n, rfl⟩ : ∃ n', n = n' + 12 := ⟨n - 12, by omega⟩
  refine i_chain 12 p p1 n i G hX hch h (by omega) (fun G1 m i3 g1 b1 b2 => ?_)
  obtain ⟨m, rfl⟩ : ∃ n', m = n' + 2 := ⟨m - 2, by omega⟩
  refine i_halt (n := m + 1) hX g1 (by omega) (by omega) c0 (fun G2 hw h9 h10 h11 e1 e2 => ?_)
  have hr := VV.rng hv (CWd.rng hX hW.2.2.2.2.2.2.1 hw)
  obtain ⟨a1, a2, a3, a4, a5, a6, a7, a8, a9, a10, a11, a12, a13, a14, a15, a16⟩ := hw
  have h9 : StkR (G2 9) [cw φ v] := h9
  have fin : V_X7_end N G2 (fun g_3 => post (g_3 4 0 2) g_3) := by
    unfold V_X7_end
    refine ⟨fun c => absurd e2 c, fun _ => v_peek (b := 0) h9 (by simp) (by simp) (by decide) (eqI ?_)⟩
    rw [show uo G2 9 (G2 9) = G2 from uo_id rfl, show ([cw φ v] : List Int32).getD 0 0 = cw φ v from rfl]
    unfold V_X9_setWord
    have h3 := hNm.1
    have h4 := hNm.2.1
    refine c_has (s := 1) (sy := x.sy) a1.1 (by omega) (by omega) ⟨fun c => absurd c (by decide), fun _ => ⟨vp_in_nI (n := 1) (by decide) (by decide), eqI (eqI (eqI ?_))⟩⟩
    refine v_cut0 (g := G2 9) (h := 1) h9.1 (by decide) (fun u9 hu9 => eqI ?_)
    refine v_cut0 (g := G2 10) (h := 0) h10.1 (by decide) (fun u10 hu10 => eqI ?_)
    refine v_cut0 (g := G2 11) (h := 0) h11.1 (by decide) (fun u11 hu11 => eqI ?_)
    have e42 : (uo (uo (uo (uo (uo G2 1 (up (G2 1) 4 (1 : Int32).toNatClampNeg (cw φ v))) 4 (us (G2 4) 6 (G2 4 0 6 + 1))) 9 u9) 10 u10) 11 u11) 4 0 2 = nI 0 := e2
    refine (show post ((uo (uo (uo (uo (uo G2 1 (up (G2 1) 4 (1 : Int32).toNatClampNeg (cw φ v))) 4 (us (G2 4) 6 (G2 4 0 6 + 1))) 9 u9) 10 u10) 11 u11) 4 0 2) _ from ?_)
    rw [e42]
    refine k _ ⟨SymC_set (s := 1) a1 (by omega), a2, a3, a4, a5, a6, a7, a8, a9, a10, a11, a12, a13, fun o ho => ?_, ?_, a16, hu9, hu10, hu11⟩ ⟨hld φ v, x.sy, by omega, by omega, a1.1, ?_, by have := va_kd_lt v; omega, hr.1, hr.2⟩
    · rw [uoN (by omega), uoN (by omega), uoN (by omega), uoN (by omega), uoN (by omega)]; exact a14 o ho
    · show G2 4 0 6 + 1 = _
      rw [a15]
    · show upd (G2 1 4) 1 (cw φ v) 1 = _
      rw [updE]; rfl
  unfold V_X7_run_32
  exact ⟨fun c => absurd ((nI_leI (a := 1000000) (b := i3 + 1) (by decide) (by omega)).mp c) (by omega), fun _ => ⟨fun _ => fin, fun c => absurd c (by rw [e1]; decide)⟩⟩
/-- the reference's last steps: a fault -/
theorem e_refE {e n : Nat} {g : St} {k : StL} {f : Nat → Int64} {G1 : SG} {postM : Int32 → St → StL → Prop} (hX : XC x G0 N) (h0 : CS0 x G0 j bt) (hW : PW x sv rc hp out inp) (he : 0 < e) (he2 : e ≤ 6) (hM : MW x cv cf sv rc hp out inp cn g k) (h18 : g 0 18 = nI e) (hC : CFin x G0 φ b lo hi sv rc hp out inp cn cv (cf + 1) G1) (kk : ∀ r2 g2 k2, g2 0 0 = nI e → Inv j N G1 g2 k2 f → postM r2 g2 k2) : V_X12_run_69 postM (n + 1) g k := by
  have nz : ¬ g 0 18 = 0 := by
    rw [h18]
    exact fun c => absurd ((nI_eq (b := 0) (by omega) (by decide)).mp c) (by omega)
  unfold V_X12_run_69
  refine ⟨fun _ => ?_, fun c => absurd c nz⟩
  unfold V_X12_run_111 V_X12_raise
  refine eqI (eqI ⟨fun c => absurd c nz, fun _ => eqI (eqI ?_)⟩)
  have e18 : (us (us (us g 12 0) 13 0) 23 ((us (us g 12 0) 13 0) 0 23 + 1)) 0 18 = nI e := h18
  rw [e18]
  obtain ⟨m1, m2, m3, m4, m5, m6, m7, m8, m9, m10, m11, m12, m13, m14, m15, m16, m17⟩ := hM
  refine kk _ _ k rfl (e_inv hX h0 hW hC (g := us g 23 (cf + 1)) ⟨m1, m2, m3, m4, m5, m6, m7, m8, m9, m10, m11, m12, m13, m14, m15, rfl, m17⟩ (fun c hc => ?_) (fun i i0 i12 i13 => ?_) rfl rfl)
  · rw [usZ hc, usZ hc, usZ hc, usZ hc, usZ hc]
  · rw [us4 _ _ i0]
    show us (us (us g 12 0) 13 0) 23 (g 0 23 + 1) 0 i = _
    rw [m16]
    by_cases e23 : i = 23
    · subst e23; rfl
    · rw [us4 _ _ e23, us4 _ _ i13, us4 _ _ i12, us4 _ _ e23]
/-- the reference's last steps: a value -/
theorem e_refV {p n : Nat} {v : Va} {g : St} {k : StL} {f : Nat → Int64} {G1 : SG} {postM : Int32 → St → StL → Prop} (hX : XC x G0 N) (h0 : CS0 x G0 j bt) (hW : PW x (svU sv 1 v) rc hp out inp) (hv : VV x.K x.C hp v) (hM : MW x cv cf sv rc hp out inp cn g k) (hK : MK [] g) (h16 : g 0 16 = enc v) (h17 : g 0 17 = 1) (hC : CFin x G0 φ b lo hi (svU sv 1 v) rc hp out inp cn (cv + 1) cf G1) (kk : ∀ r2 g2 k2, g2 0 0 = nI 0 → r2 = nI (vkd v) → Inv j N G1 g2 k2 f → postM r2 g2 k2) : V_X12_run_69 postM (n + 1) g k := by
  have h18 : g 0 18 = 0 := hK.2.2.2.2.2
  have h12 : g 0 12 = nI 0 := hK.1
  have h3 := hX.1.2.2.1.1
  have fin : V_X12_run_111 postM n g k := by
    unfold V_X12_run_111
    refine eqI (eqI ⟨fun _ => eqI ⟨vp_in_nI (n := 1) (by decide) (by decide), eqI ⟨vp_in_nI (n := 1) (by decide) (by decide), eqI ?_⟩⟩, fun c => absurd h18 c⟩)
    have e16 : (up (up (us (us (us g 12 0) 13 0) 22 ((us (us g 12 0) 13 0) 0 22 + 1)) 3 (1 : Int32).toNatClampNeg ((us (us (us g 12 0) 13 0) 22 ((us (us g 12 0) 13 0) 0 22 + 1)) 0 16)) 2 (1 : Int32).toNatClampNeg (vp_nar .boolean 1)) 0 16 = enc v := h16
    rw [e16]
    refine r_sort hv.ok ?_
    obtain ⟨m1, m2, m3, m4, m5, m6, m7, m8, m9, m10, m11, m12, m13, m14, m15, m16, m17⟩ := hM
    have e16b : (us (us (us g 12 0) 13 0) 22 ((us (us g 12 0) 13 0) 0 22 + 1)) 0 16 = enc v := h16
    rw [e16b]
    refine kk _ _ k m17 rfl (e_inv hX h0 hW hC (g := up (up (us g 22 (cv + 1)) 3 1 (enc v)) 2 1 1) ⟨m1, m2, SymM_set (s := 1) m3 (by omega), m4, m5, m6, m7, m8, m9, m10, m11, m12, m13, m14, rfl, m16, m17⟩ (fun c hc => ?_) (fun i i0 i12 i13 => ?_) rfl rfl)
    · have e1 : (us (us (us g 12 0) 13 0) 22 ((us (us g 12 0) 13 0) 0 22 + 1)) c = (us g 22 (cv + 1)) c := by rw [usZ hc, usZ hc, usZ hc, usZ hc]
      by_cases c2 : c = 2
      · subst c2; rfl
      · by_cases c3 : c = 3
        · subst c3; rfl
        · rw [upB _ _ _ c2, upB _ _ _ c3, e1, upB _ _ _ c2, upB _ _ _ c3]
    · show us (us (us g 12 0) 13 0) 22 (g 0 22 + 1) 0 i = us g 22 (cv + 1) 0 i
      rw [m15]
      by_cases e22 : i = 22
      · subst e22; rfl
      · rw [us4 _ _ e22, us4 _ _ i13, us4 _ _ i12, us4 _ _ e22]
  unfold V_X12_run_69
  refine ⟨fun c => absurd h18 c, fun _ => ⟨fun c => absurd c (by rw [h17]; decide), fun _ => ⟨fun _ => fin, fun c => absurd ?_ c⟩⟩⟩
  rw [h12]; exact Int32.le_refl _
end EN
