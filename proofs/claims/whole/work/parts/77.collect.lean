-- ===== collect =====
theorem usum_gc (hp : Nat → Option Ob) (R : Nat → Prop) : ∀ n, usum (gcH hp R) n ≤ usum hp n
  | 0 => Nat.le_refl _
  | n + 1 => by
    have h := usum_gc hp R n
    show usum (gcH hp R) n + olo (gcH hp R) n ≤ usum hp n + olo hp n
    have : olo (gcH hp R) n ≤ olo hp n := by
      unfold olo
      by_cases e : Live hp R n
      · rw [gcH_y e]; exact Nat.le_refl _
      · rw [gcH_n e]; exact Nat.zero_le _
    omega
theorem cw_hd {φ φ1 : Nat → Nat} {o : Nat → Nat} (l : List Nat) : cw φ (hdv o l) = cw φ1 (hdv o l) ∧ cw φ (tlv o l) = cw φ1 (tlv o l) := by
  refine ⟨by cases l <;> rfl, ?_⟩
  induction l with
  | nil => rfl
  | cons i l ih =>
    cases l with
    | nil => rfl
    | cons x l => exact ih
theorem LvC_phi {h2 h3 h4 : Nat → Int32} {φ φ1 o : Nat → Nat} : ∀ (lv : List (Bool × List Nat)), LvC h2 h3 h4 φ o lv → LvC h2 h3 h4 φ1 o lv
  | [], _ => trivial
  | (q, l) :: r, ⟨a, b, c, d⟩ => ⟨a, b.trans (cw_hd l).1, c.trans (cw_hd l).2, LvC_phi r d⟩
theorem l_collect {j N : Nat} {G : SG} {g : St} {k : StL} {f : Nat → Int64} (h : Inv j N G g k f) (hj : j < 64) : LT_collect N G g k f (fun G1 g1 k1 f1 => Inv (j + 1) N G1 g1 k1 f1) := by
  obtain ⟨z, sy, nam, sv, rc, rn, fs, ft, K, C, lo, hi, hp, φ, b, u, ent, tp, out, inp, lv, at1, bt, h1, h2, h3, h4, h5, h6, h7, h8, h9, h10, h11, h12, h13⟩ := h
  obtain ⟨a1, a2, a3, ⟨a4, a4'⟩, a5, ⟨a6, a6', a64, a6c⟩, ⟨a7, a7'⟩, a9, a10, a11⟩ := id h6
  obtain ⟨p1, p2, p3, p4, p5, p6, p7, p8, p9, p10, p11, p12, p13, p14, p15, p16, p17, p18⟩ := id h5
  have hz : 40 ≤ z ∧ z ≤ 167 := ⟨h4.2.2.1, h4.2.2.2.1⟩
  obtain ⟨q1, q2, q3, q4, q5, q6, q7, q8, q9, q10, q11, q12, q13, q14⟩ := id p6
  have hPu : HPu sy rn nam sv rc K C hp (fun _ => False) (G 7 1) tp ent := by
    refine ⟨p4, p7, fun i hi => (p8 i hi).2.2, fun i hi => ⟨fun m => ?_, fun m => ?_⟩, fun s o ho => ⟨(p10.1 s o ho).1, p12 s o ho⟩, fun _ c => c.elim, by omega, fun i x hx => by have := (q9 i x hx).1; omega⟩
    · obtain ⟨x, hx, -⟩ := (q14 i hi).1 m
      exact ⟨x, hx⟩
    · obtain ⟨x, hx, -⟩ := (q14 i hi).2 m
      exact ⟨x, hx⟩
  unfold LT_collect V_X11_collect
  refine ⟨6000, c_worn (by omega) h3 ⟨fun _ => ?_, fun c => absurd rfl c⟩⟩
  refine c_gc (LV := []) (LC := []) (LK := []) hPu (fun i hi => (p5.2 i hi).2.2) hz.1 hz.2 h1 (by decide) p3.2.1 h4.2.1 p16 p17 p11 p15 p2 p6 (by omega) p10 h10 (by decide) h11 (by decide) h12 (by decide) (fun y hy => ?_) (fun s c => c.elim) (fun G1 φ1 b1 c1 c2 c3 c4 c5 c6 c7 c8 c9 c10 c11 c12 c13 => ?_)
  · rcases hy with c | c | c <;> cases c
  refine ⟨6000, ?_⟩
  unfold V_X12_collect
  refine eqI (r_gc (g := us g 0 0) (vp := 0) (top := 0) (vl := fun _ => none) (kb := fun _ => none) hPu (by decide) p3.2.1 (by omega) p1 p5 p9 ⟨h9.2.2.2.2.2.2.2, by decide, fun i hi => absurd hi (Nat.not_lt_zero _)⟩ ⟨h9.2.2.2.2.2.2.1, by decide, fun i hi => absurd hi (Nat.not_lt_zero _)⟩ (fun s => ⟨fun c => c.elim, fun c => ?_⟩) (fun g1 m1 m2 m3 m4 m5 m6 => ⟨c9.trans m4.symm, ?_⟩))
  · rcases c with ⟨i, hi, -⟩ | ⟨i, e, hi, -⟩
    · exact absurd hi (Nat.not_lt_zero _)
    · exact absurd hi (Nat.not_lt_zero _)
  have hP2 := HPu_gc hPu
  have rw1 : ∀ c, c ≠ 0 → c ≠ 8 → c ≠ 11 → g1 c = g c := fun c x0 x8 x11 => (m1 c x0 x8 x11).trans (usZ x0)
  have sc1 : ∀ i, i ≠ 0 → i ≠ 4 → i ≠ 5 → i ≠ 6 → g1 0 i = g 0 i := fun i x0 x4 x5 x6 => by rw [m2 i x4 x5 x6, us0, if_neg x0]
  have e7 : G1 7 = G 7 := c13 7 (by decide) (by decide) (by decide) (by decide) (by decide)
  have e3 : G1 3 = G 3 := c13 3 (by decide) (by decide) (by decide) (by decide) (by decide)
  have e4 : G1 4 = G 4 := c13 4 (by decide) (by decide) (by decide) (by decide) (by decide)
  have e5 : G1 5 = G 5 := c13 5 (by decide) (by decide) (by decide) (by decide) (by decide)
  have e6 : G1 6 = G 6 := c13 6 (by decide) (by decide) (by decide) (by decide) (by decide)
  have e8 : G1 8 = G 8 := c13 8 (by decide) (by decide) (by decide) (by decide) (by decide)
  have e0 : G1 0 0 0 = nI (j + 1) := by rw [c13 0 (by decide) (by decide) (by decide) (by decide) (by decide)]; rfl
  refine ⟨z, sy, nam, sv, rc, rn, fs, ft, K, C, lo, hi, _, φ1, b1, _, ent, tp, out, inp, lv, at1, bt, h1, by omega, e0, ?_, ⟨?_, c2, p3, hP2.1, ?_, c3, hP2.2.1, p8, m3, c4, rfl, fun s o ho => by rw [e7]; exact (hP2.2.2.2.2.1 s o ho).2, m4, c9, ?_, c8, c1, by rw [e7]; exact p18⟩, ?_, h7, ?_, ?_, c5, c6, c7, by rw [e8]; exact h13⟩
  · obtain ⟨b1, b2, b3, b4, b5⟩ := h4
    refine ⟨(sc1 1 (by decide) (by decide) (by decide) (by decide)).trans b1, c12.trans b2, b3, b4, fun i hi => ?_⟩
    rw [rw1 4 (by decide) (by decide) (by decide), rw1 5 (by decide) (by decide) (by decide)]
    exact b5 i hi
  · rw [sc1 2 (by decide) (by decide) (by decide) (by decide), rw1 1 (by decide) (by decide) (by decide), rw1 2 (by decide) (by decide) (by decide), rw1 3 (by decide) (by decide) (by decide)]
    exact p1
  · refine ⟨(sc1 3 (by decide) (by decide) (by decide) (by decide)).trans p5.1, fun i hi => ?_⟩
    rw [rw1 6 (by decide) (by decide) (by decide), rw1 7 (by decide) (by decide) (by decide)]
    exact p5.2 i hi
  · have := usum_gc hp (RtA sy rn sv rc (fun _ => False)) 168
    omega
  · rw [e3]
    refine ⟨a1, (sc1 7 (by decide) (by decide) (by decide) (by decide)).trans a2, a3, ⟨LvC_phi lv a4, ?_⟩, a5, ⟨a6, ?_, a64, a6c⟩, ⟨a7, a7'⟩, by omega, by omega, by omega⟩
    · rw [rw1 12 (by decide) (by decide) (by decide), rw1 13 (by decide) (by decide) (by decide), rw1 14 (by decide) (by decide) (by decide)]
      exact a4'
    · unfold AtM
      rw [sc1 8 (by decide) (by decide) (by decide) (by decide), sc1 9 (by decide) (by decide) (by decide) (by decide), sc1 10 (by decide) (by decide) (by decide) (by decide), sc1 11 (by decide) (by decide) (by decide) (by decide)]
      exact a6'
  · obtain ⟨o1, o2, o3, o4, i1, i2, i3, i4⟩ := h8
    refine ⟨?_, ?_, by rw [e6]; exact o3, o4, ?_, ?_, by rw [e5]; exact i3, i4⟩
    · rw [sc1 24 (by decide) (by decide) (by decide) (by decide)]; exact o1
    · rw [rw1 23 (by decide) (by decide) (by decide)]; exact o2
    · rw [sc1 25 (by decide) (by decide) (by decide) (by decide)]; exact i1
    · rw [rw1 24 (by decide) (by decide) (by decide)]; exact i2
  · obtain ⟨d1, d2, d3, d4, d5, d6, d7, d8⟩ := h9
    unfold PCnt
    rw [e4, sc1 19 (by decide) (by decide) (by decide) (by decide), sc1 21 (by decide) (by decide) (by decide) (by decide), sc1 22 (by decide) (by decide) (by decide) (by decide), sc1 23 (by decide) (by decide) (by decide) (by decide), sc1 12 (by decide) (by decide) (by decide) (by decide), sc1 13 (by decide) (by decide) (by decide) (by decide)]
    refine ⟨?_, m6.trans c10.symm, d3, d4, d5, d6, d7, d8⟩
    rw [m5, c11]
    show g 0 5 + 1 = G 2 0 10 + 1
    rw [d1]
theorem hstep (hR : RunOK) (j N : Nat) (G : SG) (g : St) (k : StL) (f : Nat → Int64) (c v : Int32) (hj : j < 64) (h : Inv j N G g k f) : LStep c v N G g k f (fun G1 g1 k1 f1 => Inv (j + 1) N G1 g1 k1 f1) := by
  exact ⟨fun _ => l_type hR h hj, fun _ => l_cancel h hj, fun _ => l_take h hj, fun _ => l_give h hj, fun _ => l_collect h hj, fun _ => l_kind h hj, fun _ => l_number h hj, fun _ => l_count h hj⟩
