-- ===== symbols after a step =====
def namS (nam : Nat → List Nat) (sy : Nat) (l : List Nat) (b : Bool) : Nat → List Nat := if b then (fun s => if s = sy then l else nam s) else nam
def svS (sv : Nat → Option Va) (sy : Nat) (b : Bool) : Nat → Option Va := if b then (fun s => if s = sy then none else sv s) else sv
def syS (sy : Nat) (b : Bool) : Nat := if b then sy + 1 else sy
theorem symC_step {h h1 : St} {sy : Nat} {nam : Nat → List Nat} {sv : Nat → Option Va} {φ : Nat → Nat} {l : List Nat} {b : Bool} (h0 : SymC h sy nam sv φ) (hs : SStep sy l h h1 b) (hb : b = true → sy < 40) (hn : ∀ s, s < sy → (nam s).length ≤ 5) : SymC h1 (syS sy b) (namS nam sy l b) (svS sv sy b) φ := by
  obtain ⟨a1, a2, a3⟩ := h0
  cases b with
  | false =>
    have hs : SF h h1 := hs
    refine ⟨by rw [hs 0 (by decide)]; exact a1, fun s hs1 => ?_, fun s x y => by rw [hs 4 (by decide), hs 2 (by decide)]; exact a3 s x y⟩
    rw [hs 1 (by decide), hs 2 (by decide), hs 3 (by decide), hs 4 (by decide)]
    exact a2 s hs1
  | true =>
    obtain ⟨r, r1, r2, e0, e1, e2, e3, e4⟩ := hs
    have h40 := hb rfl
    refine ⟨e0, fun s hs1 => ?_, fun s x y => by
      have x : sy + 1 ≤ s := x
      rw [e4, e2, updN _ _ (by omega)]; exact a3 s (by omega) y⟩
    have hs1 : s < sy + 1 := hs1
    rw [e1, e2, e3, e4]
    show upd (h 2) sy _ s = nI (if s = sy then l else nam s).length ∧ upd (h 3) sy _ s = nI (opx (if s = sy then l else nam s)) ∧ ((if s = sy then none else sv s) = none → _) ∧ (∀ v, (if s = sy then none else sv s) = some v → _) ∧ ∀ i, i < (if s = sy then l else nam s).length → r (5 * s + i) = nI ((if s = sy then l else nam s).getD i 0)
    by_cases e : s = sy
    · subst e
      simp only [if_true]
      rw [updE, updE]
      exact ⟨rfl, rfl, fun _ => (a3 s (Nat.le_refl _) h40).1, (fun v hv => (by cases hv)), r1⟩
    · simp only [if_neg e]
      rw [updN _ _ e, updN _ _ e]
      obtain ⟨b1, b2, b3, b4, b5⟩ := a2 s (by omega)
      have := hn s (by omega)
      exact ⟨b1, b2, b3, b4, fun i hi => by rw [r2 _ (by omega)]; exact b5 i hi⟩
theorem symM_step {n : Int32} {ops has val : Nat → Int32} {nms : Nat → Int64} {sy : Nat} {nam : Nat → List Nat} {sv : Nat → Option Va} {l : List Nat} (h0 : SymM n ops has val nms sy nam sv) (h40 : sy < 40) : SymM (nI (sy + 1)) (upd ops sy (nI (opR (opx l)))) has val (vp_updL nms sy (lN (nmL l))) (syS sy true) (namS nam sy l true) (svS sv sy true) := by
  obtain ⟨a1, a2, a3⟩ := h0
  refine ⟨rfl, fun s hs1 => ?_, fun s x y => by
    have x : sy + 1 ≤ s := x
    exact ⟨(a3 s (by omega) y).1, by rw [show vp_updL nms sy (lN (nmL l)) s = nms s from if_neg (by omega)]; exact (a3 s (by omega) y).2⟩⟩
  have hs1 : s < sy + 1 := hs1
  show vp_updL nms sy _ s = lN (nmL (if s = sy then l else nam s)) ∧ upd ops sy _ s = nI (opR (opx (if s = sy then l else nam s))) ∧ ((if s = sy then none else sv s) = none → _) ∧ ∀ v, (if s = sy then none else sv s) = some v → _
  by_cases e : s = sy
  · subst e
    simp only [if_true]
    rw [updE]
    exact ⟨by simp [vp_updL], rfl, fun _ => (a3 s (Nat.le_refl _) h40).1, fun v hv => by cases hv⟩
  · simp only [if_neg e]
    rw [updN _ _ e]
    obtain ⟨b1, b2, b3, b4⟩ := a2 s (by omega)
    exact ⟨by simp [vp_updL, e, b1], b2, b3, b4⟩
theorem namOK_step {sy : Nat} {nam : Nat → List Nat} {l : List Nat} {b : Bool} (h : NamOK sy nam) (hb : b = true → sy < 40 ∧ l.length ≤ 5 ∧ nmOK l) : NamOK (syS sy b) (namS nam sy l b) := by
  cases b with
  | false => exact h
  | true =>
    obtain ⟨a1, a2, a3, a4, a5, a6⟩ := h
    obtain ⟨b1, b2, b3⟩ := hb rfl
    have hx : ∀ s, s < sy → namS nam sy l true s = nam s := fun s hs => if_neg (by omega)
    refine ⟨by show 3 ≤ sy + 1; omega, by show sy + 1 ≤ 40; omega, by rw [hx 0 (by omega)]; exact a3, by rw [hx 1 (by omega)]; exact a4, by rw [hx 2 (by omega)]; exact a5, fun s hs => ?_⟩
    have hs : s < sy + 1 := hs
    by_cases e : s = sy
    · subst e
      show (if s = s then l else nam s).length ≤ 5 ∧ ∀ c ∈ (if s = s then l else nam s), _
      rw [if_pos rfl]
      exact ⟨b2, b3⟩
    · rw [hx s (by omega)]; exact a6 s (by omega)
/-- the class's half of reading -/
def CFr (G G1 : SG) (j sy : Nat) (nam : Nat → List Nat) (sv : Nat → Option Va) (rc : Nat → Va × Va) (rn fs ft : Nat) (φ : Nat → Nat) (K : Nat → Nat → Prop) (lo hi : Nat) (lv : List (Bool × List Nat)) (at1 : List Nat) : Prop :=
  (∀ o, o ≠ 0 → o ≠ 1 → o ≠ 2 → o ≠ 3 → G1 o = G o) ∧ G1 0 0 0 = nI (j + 1) ∧ SymC (G1 1) sy nam sv φ ∧ RdC (G1 2) rc rn fs ft φ K lo hi ∧ (∀ a, 2048 ≤ a → G1 2 1 a = G 2 1 a) ∧ (∀ i, i ≠ 1 → i ≠ 2 → G1 2 0 i = G 2 0 i) ∧ G1 3 0 1 = nI lv.length ∧ LvC (G1 3 2) (G1 3 3) (G1 3 4) φ (fun i => ft + (i - fs)) lv ∧ AtC (G1 3) at1
/-- the reference's half -/
def MFr (g g1 : St) (k k1 : StL) (sy : Nat) (nam : Nat → List Nat) (sv : Nat → Option Va) (rc : Nat → Va × Va) (rn : Nat) (o : Nat → Nat) (lv : List (Bool × List Nat)) (at1 : List Nat) : Prop :=
  (∀ b, b ≠ 0 → b ≠ 1 → b ≠ 6 → b ≠ 7 → b ≠ 12 → b ≠ 13 → b ≠ 14 → g1 b = g b) ∧ (∀ i, i ≠ 0 → i ≠ 2 → i ≠ 3 → i ≠ 7 → i ≠ 8 → i ≠ 9 → i ≠ 10 → i ≠ 11 → g1 0 i = g 0 i) ∧ k1 2 = k 2 ∧ SymM (g1 0 2) (g1 1) (g1 2) (g1 3) (k1 1) sy nam sv ∧ RdM g1 rc rn ∧ g1 0 7 = nI lv.length ∧ LvM (g1 12) (g1 13) (g1 14) o lv ∧ AtM g1 k1 at1
/-- both halves together -/
theorem Inv_read {j N : Nat} {G G1 : SG} {g g1 : St} {k k1 : StL} {f1 : Nat → Int64} {z sy : Nat} {nam : Nat → List Nat} {sv : Nat → Option Va} {rc : Nat → Va × Va} {rn fs ft : Nat} {K : Nat → Nat → Prop} {C : Nat → Prop} {lo hi : Nat} {hp : Nat → Option Ob} {φ : Nat → Nat} {b u : Nat} {ent : Nat → Nat} {tp : Nat} {out : List Nat} {inp : List Int} {bt : Nat}
    (h1 : N = 2048 + 2 * z) (hj : j < 64) (h4 : PCon G g k z) (h5 : PHp G g k z sy nam sv rc rn fs ft K C lo hi hp φ b u ent tp) (h7 : tp ≤ 8 * bt) (h8 : PIO G g out inp) (h9 : PCnt G g) (h10 : StkR (G 9) []) (h11 : StkR (G 10) []) (h12 : StkR (G 11) []) (h13 : ∃ h, h ≤ 12 ∧ G 8 0 0 = nI h)
    {sy1 : Nat} {nam1 : Nat → List Nat} {sv1 : Nat → Option Va} {rc1 : Nat → Va × Va} {rn1 fs1 : Nat} {lv1 : List (Bool × List Nat)} {at1 : List Nat}
    (hC : CFr G G1 j sy1 nam1 sv1 rc1 rn1 fs1 ft φ K lo hi lv1 at1) (hM : MFr g g1 k k1 sy1 nam1 sv1 rc1 rn1 (fun i => ft + (i - fs1)) lv1 at1) (hN : NamOK sy1 nam1) (hsy : sy ≤ sy1) (hnam : ∀ s, s < sy → nam1 s = nam s) (hsv : ∀ s v, s < sy1 → sv1 s = some v → s < sy ∧ sv s = some v) (hrc : ∀ i, i < fs → rc1 i = rc i) (hfs : fs ≤ fs1)
    (hP : lv1.length ≤ 12 ∧ LvO rc1 sy1 fs1 (fun i => ft + (i - fs1)) lv1 rn1 ∧ at1.length ≤ 64 ∧ (∀ x ∈ at1, isAc x = true) ∧ ((lv1 = [] → at1 = []) ∧ outF lv1) ∧ rn1 + nqs lv1 + (if at1 = [] then 0 else 1) ≤ 2 * (j + 1) ∧ bt + (rn1 - fs1) + nqs lv1 + (if at1 = [] then 0 else 1) ≤ 2 * (j + 1) ∧ at1.length ≤ j + 1) : Inv (j + 1) N G1 g1 k1 f1 := by
  obtain ⟨c1, c2, c3, c4, c5, c6, c7, c8, c9⟩ := hC
  obtain ⟨m1, m2, m3, m4, m5, m6, m7, m8⟩ := hM
  obtain ⟨q1, q2, q3, q4, q5, q6, q7, q8⟩ := hP
  obtain ⟨p1, p2, p3, p4, p5, p6, p7, p8, p9, p10, p11, p12, p13, p14, p15, p16, p17, p18⟩ := h5
  have e4 := c1 4 (by decide) (by decide) (by decide) (by decide)
  have e5 := c1 5 (by decide) (by decide) (by decide) (by decide)
  have e6 := c1 6 (by decide) (by decide) (by decide) (by decide)
  have e7 := c1 7 (by decide) (by decide) (by decide) (by decide)
  have e8 := c1 8 (by decide) (by decide) (by decide) (by decide)
  have e9 := c1 9 (by decide) (by decide) (by decide) (by decide)
  have e10 := c1 10 (by decide) (by decide) (by decide) (by decide)
  have e11 := c1 11 (by decide) (by decide) (by decide) (by decide)
  have hKf : ∀ i x, K i x → i < fs := fun i x h => (p6.2.2.2.2.2.2.2.2.1 i x h).1
  refine ⟨z, sy1, nam1, sv1, rc1, rn1, fs1, ft, K, C, lo, hi, hp, φ, b, u, ent, tp, out, inp, lv1, at1, bt, h1, by omega, c2, ?_, ?_, ⟨c7, m6, q1, ⟨c8, m7⟩, q2, ⟨c9, m8, q3, q4⟩, q5, q6, q7, q8⟩, h7, ?_, ?_, by rw [e9]; exact h10, by rw [e10]; exact h11, by rw [e11]; exact h12, by rw [e8]; exact h13⟩
  · obtain ⟨a1, a2, a3, a4, a5⟩ := h4
    exact ⟨by rw [m2 1 (by decide) (by decide) (by decide) (by decide) (by decide) (by decide) (by decide) (by decide)]; exact a1, by rw [c6 0 (by decide) (by decide)]; exact a2, a3, a4, fun i hi => by
      rw [m3, m1 4 (by decide) (by decide) (by decide) (by decide) (by decide) (by decide) (by decide), m1 5 (by decide) (by decide) (by decide) (by decide) (by decide) (by decide) (by decide)]
      exact a5 i hi⟩
  · refine ⟨m4, c3, hN, fun s v hs hv => p4 s v (hsv s v hs hv).1 (hsv s v hs hv).2, m5, c4, fun i x hi hc => ?_, fun i hi => ⟨Nat.lt_of_lt_of_le (p8 i hi).1 hfs, fun s e => ?_, by rw [hrc i (p8 i hi).1]; exact (p8 i hi).2.2⟩, ?_, ?_, p11, fun s o ho => ?_, ?_, ?_, p15, ?_, p17, ?_⟩
    · rw [hrc i (hKf i x hi)]; exact p7 i x hi hc
    · rw [hrc i (p8 i hi).1] at e
      exact Nat.lt_of_lt_of_le ((p8 i hi).2.1 s e) hsy
    · intro s hs
      rw [m1 8 (by decide) (by decide) (by decide) (by decide) (by decide) (by decide) (by decide), m1 9 (by decide) (by decide) (by decide) (by decide) (by decide) (by decide) (by decide), m1 10 (by decide) (by decide) (by decide) (by decide) (by decide) (by decide) (by decide)]
      exact p9 s hs
    · refine ⟨fun s o ho => ?_, p10.2⟩
      obtain ⟨x1, x2, x3, x4⟩ := p10.1 s o ho
      exact ⟨x1, x2, x3, fun i hi => by rw [c5 _ (by rcases p17 with e | e <;> omega)]; exact x4 i hi⟩
    · rw [e7]
      refine ObR_tr (Nat.le_refl _) (fun _ _ => rfl) (fun i hi => ⟨hi, hrc i (p8 i hi).1⟩) (fun i hi => ?_) (fun v h => h) (fun v h => h) (fun s p q l h => ⟨l, h, rfl⟩) o (p12 s o ho)
      cases hv : (rc i).1 with
      | none => rfl
      | some w =>
        rcases w with w | w | w
        · rfl
        · show opx (nam1 w) = opx (nam w)
          rw [hnam w ((p8 i hi).2.1 w hv)]
        · rfl
    · rw [m2 4 (by decide) (by decide) (by decide) (by decide) (by decide) (by decide) (by decide) (by decide)]; exact p13
    · rw [c6 8 (by decide) (by decide)]; exact p14
    · rw [c6 5 (by decide) (by decide)]; exact p16
    · rw [e7]; exact p18
  · obtain ⟨o1, o2, o3, o4, i1, i2, i3, i4⟩ := h8
    refine ⟨?_, ?_, by rw [e6]; exact o3, o4, ?_, ?_, by rw [e5]; exact i3, i4⟩
    · rw [m2 24 (by decide) (by decide) (by decide) (by decide) (by decide) (by decide) (by decide) (by decide)]; exact o1
    · rw [m1 23 (by decide) (by decide) (by decide) (by decide) (by decide) (by decide) (by decide)]; exact o2
    · rw [m2 25 (by decide) (by decide) (by decide) (by decide) (by decide) (by decide) (by decide) (by decide)]; exact i1
    · rw [m1 24 (by decide) (by decide) (by decide) (by decide) (by decide) (by decide) (by decide)]; exact i2
  · obtain ⟨d1, d2, d3, d4, d5, d6⟩ := h9
    unfold PCnt
    rw [e4, c6 10 (by decide) (by decide), c6 9 (by decide) (by decide), m2 5 (by decide) (by decide) (by decide) (by decide) (by decide) (by decide) (by decide) (by decide), m2 6 (by decide) (by decide) (by decide) (by decide) (by decide) (by decide) (by decide) (by decide), m2 19 (by decide) (by decide) (by decide) (by decide) (by decide) (by decide) (by decide) (by decide), m2 21 (by decide) (by decide) (by decide) (by decide) (by decide) (by decide) (by decide) (by decide), m2 22 (by decide) (by decide) (by decide) (by decide) (by decide) (by decide) (by decide) (by decide), m2 23 (by decide) (by decide) (by decide) (by decide) (by decide) (by decide) (by decide) (by decide), m2 12 (by decide) (by decide) (by decide) (by decide) (by decide) (by decide) (by decide) (by decide), m2 13 (by decide) (by decide) (by decide) (by decide) (by decide) (by decide) (by decide) (by decide)]
    exact ⟨d1, d2, d3, d4, d5, d6⟩
