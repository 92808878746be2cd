-- ===== the calls that run nothing =====
theorem c_worn {N j : Nat} {G : SG} {post : Int32 → SG → Prop} (hj : j < 512) (h : G 0 0 0 = nI j) (k : post 0 (uo G 0 (us (G 0) 0 (nI (j + 1))))) : V_X11_isWornOut N G post := by
  unfold V_X11_isWornOut
  rw [h]
  refine ⟨fun _ g2 e2 => ?_, fun c => absurd (nI_lt (b := 512) hj (by decide)) c⟩
  subst e2
  rw [nI_1]; exact k
/-- the counters alone move -/
theorem Inv.tick {j N : Nat} {G : SG} {g : St} {k : StL} {f f1 : Nat → Int64} {x : Int32} (h : Inv j N G g k f) (hj : j < 64) : Inv (j + 1) N (uo G 0 (us (G 0) 0 (nI (j + 1)))) (us g 0 x) k f1 := by
  obtain ⟨z, sy, nam, sv, rc, rn, fs, ft, K, C, lo, hi, hp, φ, b, u, ent, tp, out, inp, lv, at1, bt, h1, h2, h3, h4, h5, h6, h7, h8, h9, h10, h11, h12, h13⟩ := h
  refine ⟨z, sy, nam, sv, rc, rn, fs, ft, K, C, lo, hi, hp, φ, b, u, ent, tp, out, inp, lv, at1, bt, h1, by omega, rfl, h4, h5, ?_, h7, h8, h9, h10, h11, h12, h13⟩
  obtain ⟨a1, a2, a3, a4, a5, a6, a7, a9, a10, a11⟩ := h6
  exact ⟨a1, a2, a3, a4, a5, a6, a7, by omega, by omega, by omega⟩
theorem l_cancel {j N : Nat} {G : SG} {g : St} {k : StL} {f : Nat → Int64} (h : Inv j N G g k f) (hj : j < 64) : LT_cancel N G g k f (fun G1 g1 k1 f1 => Inv (j + 1) N G1 g1 k1 f1) := by
  obtain ⟨z, sy, nam, sv, rc, rn, fs, ft, K, C, lo, hi, hp, φ, b, u, ent, tp, out, inp, lv, at1, bt, h1, h2, h3, h4, h5, h6, h7, h8, h9, h10, h11, h12, h13⟩ := h
  unfold LT_cancel V_X11_cancel
  refine c_worn (by omega) h3 ?_
  refine ⟨fun _ => ?_, fun c => absurd rfl c⟩
  unfold V_X6_drop
  intro x1 e1 g2 e2 g3 e3
  unfold V_X2_dropRead
  intro u1 e4 g5 e5
  subst e2; subst e3; subst e4; subst e5
  unfold V_X12_cancel
  intro g1 d1 x2 d2 g3 d3 g4 d4
  subst d1; subst d3; subst d4
  obtain ⟨a1, a2, a3, a4, a5, a6, a7, a9, a10, a11⟩ := h6
  have hfr : fs ≤ rn := h5.2.2.2.2.2.1.2.2.2.2.2.2.1
  refine ⟨?_, z, sy, nam, sv, rc, rn, rn, ft, K, C, lo, hi, hp, φ, b, u, ent, tp, out, inp, [], [], bt, h1, by omega, rfl, h4, ?_, ?_, h7, h8, h9, h10, h11, h12, h13⟩
  · rw [e1, d2]
    exact a1.trans a2.symm
  · obtain ⟨p1, p2, p3, p4, p5, p6, p7, p8, p9, p10, p11, p12, p13, p14, p15, p16, p17, p18⟩ := h5
    obtain ⟨q1, q2, q3, q4, q5, q6, q7, q8, q9, q10, q11, q12, q13, q14⟩ := p6
    refine ⟨p1, p2, p3, p4, p5, ?_, p7, fun i hi => ⟨Nat.lt_of_lt_of_le (p8 i hi).1 q7, (p8 i hi).2⟩, p9, p10, p11, p12, p13, p14, p15, p16, p17, p18⟩
    refine ⟨?_, q2, q3, q4, q5, q6, Nat.le_refl _, by omega, fun i x hi => ⟨Nat.lt_of_lt_of_le (q9 i x hi).1 q7, (q9 i x hi).2⟩, q10, q11, q12, fun i x hi => q13 i x (hi.elim Or.inl (fun z => absurd z.1 (by have := z.2.1; omega))), q14⟩
    show G 2 0 2 = _
    rw [q2, Nat.sub_self, Nat.add_zero]
  · refine ⟨rfl, rfl, Nat.zero_le _, ⟨trivial, trivial⟩, ⟨rfl, fun i a b => absurd a (Nat.not_le_of_lt b)⟩, ⟨⟨rfl, fun i hi => absurd hi (Nat.not_lt_zero _)⟩, ⟨rfl, fun h => absurd rfl h⟩, Nat.zero_le _, fun x hx => (by cases hx)⟩, ⟨fun _ => rfl, trivial⟩, ?_, ?_, Nat.zero_le _⟩
    · show rn + 0 + 0 ≤ 2 * (j + 1)
      omega
    · show bt + (rn - rn) + 0 + 0 ≤ 2 * (j + 1)
      omega
theorem us_us (g : St) (j : Nat) (x y : Int32) : us (us g j x) j y = us g j y := by
  funext b
  cases b with
  | zero =>
    funext i
    show cond (Nat.beq i j) y (cond (Nat.beq i j) x (g 0 i)) = cond (Nat.beq i j) y (g 0 i)
    cases Nat.beq i j <;> rfl
  | succ b => rfl
theorem r_raise {g : St} {k : StL} {x y : Int32} {post : Int32 → St → StL → Prop} (h : post 0 (us g 0 x) k) : V_X12_raise x (us g 0 y) k post := by
  unfold V_X12_raise
  intro g1 e1
  rw [us_us] at e1
  subst e1
  exact h
theorem r_count_0 {g : St} {kk : StL} {post : Int32 → St → StL → Prop} (k : post (g 0 4) (us g 0 0) kk) : V_X12_count (0 : Int32) g kk post := by
  unfold V_X12_count
  intro g1 e1
  subst e1
  exact ⟨fun _ => k, fun d => absurd d (by decide), fun d => absurd d (by decide), fun d => absurd d (by decide), fun d => absurd d (by decide), fun d => absurd d (by decide), fun d => absurd d (by decide), fun d => absurd d (by decide), fun d => absurd d (by decide), fun d => absurd d (by decide), fun d => absurd d (by decide), fun d0 d1 d2 d3 d4 d5 d6 d7 d8 d9 d10 => absurd rfl d0⟩
theorem r_count_1 {g : St} {kk : StL} {post : Int32 → St → StL → Prop} (k : post (g 0 5) (us g 0 0) kk) : V_X12_count (1 : Int32) g kk post := by
  unfold V_X12_count
  intro g1 e1
  subst e1
  exact ⟨fun d => absurd d (by decide), fun _ => k, fun d => absurd d (by decide), fun d => absurd d (by decide), fun d => absurd d (by decide), fun d => absurd d (by decide), fun d => absurd d (by decide), fun d => absurd d (by decide), fun d => absurd d (by decide), fun d => absurd d (by decide), fun d => absurd d (by decide), fun d0 d1 d2 d3 d4 d5 d6 d7 d8 d9 d10 => absurd rfl d1⟩
theorem r_count_2 {g : St} {kk : StL} {post : Int32 → St → StL → Prop} (k : post (g 0 6) (us g 0 0) kk) : V_X12_count (2 : Int32) g kk post := by
  unfold V_X12_count
  intro g1 e1
  subst e1
  exact ⟨fun d => absurd d (by decide), fun d => absurd d (by decide), fun _ => k, fun d => absurd d (by decide), fun d => absurd d (by decide), fun d => absurd d (by decide), fun d => absurd d (by decide), fun d => absurd d (by decide), fun d => absurd d (by decide), fun d => absurd d (by decide), fun d => absurd d (by decide), fun d0 d1 d2 d3 d4 d5 d6 d7 d8 d9 d10 => absurd rfl d2⟩
theorem r_count_3 {g : St} {kk : StL} {post : Int32 → St → StL → Prop} (k : post (g 0 19) (us g 0 0) kk) : V_X12_count (3 : Int32) g kk post := by
  unfold V_X12_count
  intro g1 e1
  subst e1
  exact ⟨fun d => absurd d (by decide), fun d => absurd d (by decide), fun d => absurd d (by decide), fun _ => k, fun d => absurd d (by decide), fun d => absurd d (by decide), fun d => absurd d (by decide), fun d => absurd d (by decide), fun d => absurd d (by decide), fun d => absurd d (by decide), fun d => absurd d (by decide), fun d0 d1 d2 d3 d4 d5 d6 d7 d8 d9 d10 => absurd rfl d3⟩
theorem r_count_4 {g : St} {kk : StL} {post : Int32 → St → StL → Prop} (k : post (g 0 21) (us g 0 0) kk) : V_X12_count (4 : Int32) g kk post := by
  unfold V_X12_count
  intro g1 e1
  subst e1
  exact ⟨fun d => absurd d (by decide), fun d => absurd d (by decide), fun d => absurd d (by decide), fun d => absurd d (by decide), fun _ => k, fun d => absurd d (by decide), fun d => absurd d (by decide), fun d => absurd d (by decide), fun d => absurd d (by decide), fun d => absurd d (by decide), fun d => absurd d (by decide), fun d0 d1 d2 d3 d4 d5 d6 d7 d8 d9 d10 => absurd rfl d4⟩
theorem r_count_5 {g : St} {kk : StL} {post : Int32 → St → StL → Prop} (k : post (g 0 2) (us g 0 0) kk) : V_X12_count (5 : Int32) g kk post := by
  unfold V_X12_count
  intro g1 e1
  subst e1
  exact ⟨fun d => absurd d (by decide), fun d => absurd d (by decide), fun d => absurd d (by decide), fun d => absurd d (by decide), fun d => absurd d (by decide), fun _ => k, fun d => absurd d (by decide), fun d => absurd d (by decide), fun d => absurd d (by decide), fun d => absurd d (by decide), fun d => absurd d (by decide), fun d0 d1 d2 d3 d4 d5 d6 d7 d8 d9 d10 => absurd rfl d5⟩
theorem r_count_6 {g : St} {kk : StL} {post : Int32 → St → StL → Prop} (k : post (g 0 7) (us g 0 0) kk) : V_X12_count (6 : Int32) g kk post := by
  unfold V_X12_count
  intro g1 e1
  subst e1
  exact ⟨fun d => absurd d (by decide), fun d => absurd d (by decide), fun d => absurd d (by decide), fun d => absurd d (by decide), fun d => absurd d (by decide), fun d => absurd d (by decide), fun _ => k, fun d => absurd d (by decide), fun d => absurd d (by decide), fun d => absurd d (by decide), fun d => absurd d (by decide), fun d0 d1 d2 d3 d4 d5 d6 d7 d8 d9 d10 => absurd rfl d6⟩
theorem r_count_7 {g : St} {kk : StL} {post : Int32 → St → StL → Prop} (k : post (g 0 24) (us g 0 0) kk) : V_X12_count (7 : Int32) g kk post := by
  unfold V_X12_count
  intro g1 e1
  subst e1
  exact ⟨fun d => absurd d (by decide), fun d => absurd d (by decide), fun d => absurd d (by decide), fun d => absurd d (by decide), fun d => absurd d (by decide), fun d => absurd d (by decide), fun d => absurd d (by decide), fun _ => k, fun d => absurd d (by decide), fun d => absurd d (by decide), fun d => absurd d (by decide), fun d0 d1 d2 d3 d4 d5 d6 d7 d8 d9 d10 => absurd rfl d7⟩
theorem r_count_8 {g : St} {kk : StL} {post : Int32 → St → StL → Prop} (k : post (g 0 25) (us g 0 0) kk) : V_X12_count (8 : Int32) g kk post := by
  unfold V_X12_count
  intro g1 e1
  subst e1
  exact ⟨fun d => absurd d (by decide), fun d => absurd d (by decide), fun d => absurd d (by decide), fun d => absurd d (by decide), fun d => absurd d (by decide), fun d => absurd d (by decide), fun d => absurd d (by decide), fun d => absurd d (by decide), fun _ => k, fun d => absurd d (by decide), fun d => absurd d (by decide), fun d0 d1 d2 d3 d4 d5 d6 d7 d8 d9 d10 => absurd rfl d8⟩
theorem r_count_9 {g : St} {kk : StL} {post : Int32 → St → StL → Prop} (k : post (g 0 22) (us g 0 0) kk) : V_X12_count (9 : Int32) g kk post := by
  unfold V_X12_count
  intro g1 e1
  subst e1
  exact ⟨fun d => absurd d (by decide), fun d => absurd d (by decide), fun d => absurd d (by decide), fun d => absurd d (by decide), fun d => absurd d (by decide), fun d => absurd d (by decide), fun d => absurd d (by decide), fun d => absurd d (by decide), fun d => absurd d (by decide), fun _ => k, fun d => absurd d (by decide), fun d0 d1 d2 d3 d4 d5 d6 d7 d8 d9 d10 => absurd rfl d9⟩
theorem r_count_10 {g : St} {kk : StL} {post : Int32 → St → StL → Prop} (k : post (g 0 23) (us g 0 0) kk) : V_X12_count (10 : Int32) g kk post := by
  unfold V_X12_count
  intro g1 e1
  subst e1
  exact ⟨fun d => absurd d (by decide), fun d => absurd d (by decide), fun d => absurd d (by decide), fun d => absurd d (by decide), fun d => absurd d (by decide), fun d => absurd d (by decide), fun d => absurd d (by decide), fun d => absurd d (by decide), fun d => absurd d (by decide), fun d => absurd d (by decide), fun _ => k, fun d0 d1 d2 d3 d4 d5 d6 d7 d8 d9 d10 => absurd rfl d10⟩
theorem r_count_no {g : St} {kk : StL} {v : Int32} {post : Int32 → St → StL → Prop} (d0 : ¬ v = (0 : Int32)) (d1 : ¬ v = (1 : Int32)) (d2 : ¬ v = (2 : Int32)) (d3 : ¬ v = (3 : Int32)) (d4 : ¬ v = (4 : Int32)) (d5 : ¬ v = (5 : Int32)) (d6 : ¬ v = (6 : Int32)) (d7 : ¬ v = (7 : Int32)) (d8 : ¬ v = (8 : Int32)) (d9 : ¬ v = (9 : Int32)) (d10 : ¬ v = (10 : Int32)) (k : post 0 (us g 0 1) kk) : V_X12_count v g kk post := by
  unfold V_X12_count
  intro g1 e1
  subst e1
  refine ⟨fun d => absurd d d0, fun d => absurd d d1, fun d => absurd d d2, fun d => absurd d d3, fun d => absurd d d4, fun d => absurd d d5, fun d => absurd d d6, fun d => absurd d d7, fun d => absurd d d8, fun d => absurd d d9, fun d => absurd d d10, fun _ _ _ _ _ _ _ _ _ _ _ => ?_⟩
  exact r_raise k
theorem updL0 (f : Nat → Int64) (x : Int64) : vp_updL f 0 x 0 = x := by simp [vp_updL]
theorem l_count {j N : Nat} {G : SG} {g : St} {k : StL} {f : Nat → Int64} {v : Int32} (h : Inv j N G g k f) (hj : j < 64) : LT_count v N G g k f (fun G1 g1 k1 f1 => Inv (j + 1) N G1 g1 k1 f1) := by
  have hI := fun (x : Int32) (f1 : Nat → Int64) => h.tick (x := x) (f1 := f1) hj
  obtain ⟨z, sy, nam, sv, rc, rn, fs, ft, K, C, lo, hi, hp, φ, b, u, ent, tp, out, inp, lv, at1, bt, h1, h2, h3, h4, h5, h6, h7, h8, h9, h10, h11, h12, h13⟩ := h
  obtain ⟨c1, c2, c3, c4, c5, c6, -⟩ := h9
  obtain ⟨p1, p2, p3, p4, p5, p6, p7, p8, p9, p10, p11, p12, p13, p14, p15, p16, p17, p18⟩ := h5
  obtain ⟨a1, a2, a3, a4, a5, a6, a7, a9, a10, a11⟩ := h6
  obtain ⟨o1, o2, ⟨o, q1, q2, q3, q4, q5⟩, o4, i1, i2, ⟨o5, r1, r2, r3, r4, r5⟩, i4⟩ := h8
  rw [List.length_map] at q3 r3
  unfold LT_count V_X11_count
  refine c_worn (by omega) h3 ?_
  refine ⟨fun _ => ?_, fun c => absurd rfl c⟩
  refine ⟨fun c => ?_, fun c => ?_, fun c => ?_, fun c => ?_, fun c => ?_, fun c => ?_, fun c => ?_, fun c => ?_, fun c => ?_, fun c => ?_, fun c => ?_, fun d0 d1 d2 d3 d4 d5 d6 d7 d8 d9 d10 => ?_⟩
  · subst c
    unfold PP_count
    refine r_count_0 ?_
    unfold V_X12_thrown
    refine ⟨rfl, fun _ => ?_, hI _ _⟩
    rw [updL0]
    exact congrArg Int32.toInt64 (p13.trans p14.symm).symm
  · subst c
    unfold PP_count
    refine r_count_1 ?_
    unfold V_X12_thrown
    refine ⟨rfl, fun _ => ?_, hI _ _⟩
    rw [updL0]
    exact congrArg Int32.toInt64 (c1).symm
  · subst c
    unfold PP_count
    refine r_count_2 ?_
    unfold V_X12_thrown
    refine ⟨rfl, fun _ => ?_, hI _ _⟩
    rw [updL0]
    exact congrArg Int32.toInt64 (c2).symm
  · subst c
    unfold PP_count
    refine r_count_3 ?_
    unfold V_X12_thrown
    refine ⟨rfl, fun _ => ?_, hI _ _⟩
    rw [updL0]
    exact congrArg Int32.toInt64 (c3).symm
  · subst c
    unfold PP_count
    refine r_count_4 ?_
    unfold V_X12_thrown
    refine ⟨rfl, fun _ => ?_, hI _ _⟩
    rw [updL0]
    exact congrArg Int32.toInt64 (c4).symm
  · subst c
    unfold PP_count
    refine r_count_5 ?_
    unfold V_X12_thrown
    refine ⟨rfl, fun _ => ?_, hI _ _⟩
    rw [updL0]
    exact congrArg Int32.toInt64 (p1.1.trans p2.1.symm).symm
  · subst c
    unfold PP_count
    refine r_count_6 ?_
    unfold V_X12_thrown
    refine ⟨rfl, fun _ => ?_, hI _ _⟩
    rw [updL0]
    exact congrArg Int32.toInt64 (a2.trans a1.symm).symm
  · subst c
    unfold PP_count
    refine r_count_7 ?_
    unfold V_X12_thrown
    refine ⟨rfl, fun _ => ?_, hI _ _⟩
    rw [updL0]
    exact congrArg Int32.toInt64 (o1.trans q3.symm).symm
  · subst c
    unfold PP_count
    refine r_count_8 ?_
    unfold V_X12_thrown
    refine ⟨rfl, fun _ => ?_, hI _ _⟩
    rw [updL0]
    exact congrArg Int32.toInt64 (i1.trans r3.symm).symm
  · subst c
    unfold PP_count
    refine r_count_9 ?_
    unfold V_X12_thrown
    refine ⟨rfl, fun _ => ?_, hI _ _⟩
    rw [updL0]
    exact congrArg Int32.toInt64 (c5).symm
  · subst c
    unfold PP_count
    refine r_count_10 ?_
    unfold V_X12_thrown
    refine ⟨rfl, fun _ => ?_, hI _ _⟩
    rw [updL0]
    exact congrArg Int32.toInt64 (c6).symm
  · refine ⟨0, rfl, ?_⟩
    unfold PP_count
    refine r_count_no d0 d1 d2 d3 d4 d5 d6 d7 d8 d9 d10 ?_
    unfold V_X12_thrown
    refine ⟨rfl, fun c => absurd c (by decide), hI 1 _⟩
