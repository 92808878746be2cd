theorem uo_id {G : SG} {o : Nat} {u : St} (h : u = G o) : uo G o u = G := by
  subst h
  funext b
  show cond (Nat.beq b o) (G o) (G b) = G b
  cases h : Nat.beq b o with
  | true => rw [Nat.eq_of_beq_eq_true h]; rfl
  | false => rfl
theorem uoI {G : SG} {o : Nat} {u : St} {P : SG → Prop} (hu : u = G o) (h : P G) : ∀ g5 : SG, g5 = uo G o u → P g5 := fun g5 e => by rw [e, uo_id hu]; exact h
theorem eqI {α : Type} {x : α} {P : α → Prop} (h : P x) : ∀ y : α, y = x → P y := fun y e => by rw [e]; exact h
theorem c_has {s sy : Nat} {g : St} {post : Int32 → St → Prop} (hg : g 0 0 = nI sy) (hs : s < sy) (hy : sy ≤ 40) (k : post 1 g) : V_X9_has (nI s) g post := by
  unfold V_X9_has
  rw [hg]
  exact ⟨fun c => absurd c (nI_pos (by omega)), fun _ => ⟨fun c => absurd c (nI_ge hs (by omega)), fun _ => ⟨fun c => absurd c (nI_ge (b := 40) (by omega) (by decide)), fun _ => k⟩⟩⟩
theorem c_hasNo {v : Int32} {sy : Nat} {g : St} {post : Int32 → St → Prop} (hg : g 0 0 = nI sy) (hv : v < 0 ∨ nI sy ≤ v) (k : post 0 g) : V_X9_has v g post := by
  unfold V_X9_has
  rw [hg]
  refine ⟨fun _ => k, fun c => ⟨fun _ => k, fun c2 => ?_⟩⟩
  rcases hv with hv | hv
  · exact absurd hv c
  · exact absurd hv c2
theorem c_word {s sy : Nat} {g : St} {post : Int32 → St → Prop} (hg : g 0 0 = nI sy) (hs : s < sy) (hy : sy ≤ 40) (k : post (g 4 s) g) : V_X9_word (nI s) g post := by
  unfold V_X9_word
  refine c_has hg hs hy ⟨fun c => absurd c (by decide), fun _ => ⟨vp_in_nI (by omega) (by decide), ?_⟩⟩
  rw [nI_clamp (by omega)]; exact k
/-- the range of what a word holds -/
def Rng (φ : Nat → Nat) (hp : Nat → Option Ob) : Prop := ∀ s o, hp s = some o → φ s < 4096
theorem VV.rng {φ : Nat → Nat} {K : Nat → Nat → Prop} {C : Nat → Prop} {hp : Nat → Option Ob} {v : Va} (hv : VV K C hp v) (hR : Rng φ hp) : -134217728 ≤ hld φ v ∧ hld φ v < 134217728 := by
  rcases v with _ | v | v | ⟨v, v2⟩ | v | v | v
  · simp [hld]
  · simp [VV] at hv; simp [hld]; omega
  · simp [VV] at hv; simp [hld]; omega
  · have := hv.2.2.2; simp [hld]; omega
  · obtain ⟨_, a, d, h⟩ := hv; have := hR v _ h; simp [hld]; omega
  · obtain ⟨_, l, h⟩ := hv; have := hR v _ h; simp [hld]; omega
  · obtain ⟨_, r, e, h⟩ := hv; have := hR v _ h; simp [hld]; omega
theorem PHp.rng {G : SG} {g : St} {k : StL} {z sy : Nat} {nam : Nat → List Nat} {sv : Nat → Option Va} {rc : Nat → Va × Va} {rn fs ft : Nat} {K : Nat → Nat → Prop} {C : Nat → Prop} {lo hi : Nat} {hp : Nat → Option Ob} {φ : Nat → Nat} {b u : Nat} {ent : Nat → Nat} {tp : Nat}
    (h : PHp G g k z sy nam sv rc rn fs ft K C lo hi hp φ b u ent tp) (hz : z ≤ 167) : Rng φ hp := by
  obtain ⟨p1, p2, p3, p4, p5, p6, p7, p8, p9, p10, p11, p12, p13, p14, p15, p16, p17, p18⟩ := h
  intro s o ho
  have := (p10.1 s o ho).2.2.1
  rcases p17 with e | e <;> omega
theorem r_sk {v : Va} {t : Nat} {post : Int32 → Prop} (h : vok v) (hk : vkd v = t) (k : post (nI t)) : V_X12_sortOf (enc v) post := by
  subst hk
  exact r_sort h k
/-- symbols: what both say of one -/
theorem l_kind {j N : Nat} {G : SG} {g : St} {k : StL} {f : Nat → Int64} {v : Int32} (h : Inv j N G g k f) (hj : j < 64) : LT_kind v N G g k f (fun G1 g1 k1 f1 => Inv (j + 1) N G1 g1 k1 f1) := by
  have hI := fun (x : Int32) (f1 : Nat → Int64) => h.tick (x := x) (f1 := f1) hj
  obtain ⟨z, sy, nam, sv, rc, rn, fs, ft, K, C, lo, hi, hp, φ, b, u, ent, tp, out, inp, lv, at1, bt, h1, h2, h3, h4, h5, h6, h7, h8, h9, h10, h11, h12, h13⟩ := h
  have hR := h5.rng h4.2.2.2.1
  obtain ⟨p1, p2, p3, p4, p5, p6, p7, p8, p9, p10, p11, p12, p13, p14, p15, p16, p17, p18⟩ := h5
  have hsy := p3.2.1
  unfold LT_kind V_X11_kind
  refine c_worn (by omega) h3 ?_
  refine ⟨fun _ => ?_, fun c => absurd rfl c⟩
  by_cases hv : v < 0 ∨ nI sy ≤ v
  · refine c_hasNo (g := G 1) p2.1 hv ?_
    refine uoI rfl ?_
    refine ⟨fun c => absurd rfl c, fun _ => ⟨0, rfl, ?_⟩⟩
    unfold PP_kind V_X12_kind
    refine eqI ?_
    have fin : V_X12_raise 1 (us g 0 0) k (fun r g1 k1 => V_X12_thrown g1 k1 (fun t1 g2 k2 => t1 = nI 1 ∧ (nI 1 = 0 → f 0 = r.toInt64) ∧ Inv (j + 1) N (uo G 0 (us (G 0) 0 (nI (j + 1)))) g2 k2 f)) := by
      refine r_raise ?_
      unfold V_X12_thrown
      exact ⟨rfl, fun c => absurd c (by decide), hI 1 _⟩
    refine ⟨fun _ => fin, fun c => ⟨fun c2 => ?_, fun _ => fin⟩⟩
    rcases hv with hv | hv
    · exact absurd hv c
    · have c2 : v < g 0 2 := c2
      rw [p1.1] at c2
      exact absurd c2 (Int32.not_lt.mpr hv)
  · have hv1 : ¬ v < 0 := fun z => hv (Or.inl z)
    have hv2 : v < nI sy := Int32.not_le.mp (fun z => hv (Or.inr z))
    obtain ⟨s, hs1, rfl⟩ := nI_of hv1
    have hs : s < sy := (nI_ltI hs1 (by omega)).mp hv2
    refine c_has (g := G 1) p2.1 hs hsy ?_
    refine uoI rfl ?_
    refine ⟨fun _ => ?_, fun c => absurd c (by decide)⟩
    refine c_word (g := G 1) p2.1 hs hsy ?_
    refine uoI rfl ?_
    have hin : vp_in (nI s) 40 := vp_in_nI (by omega) (by decide)
    obtain ⟨s1, s2, s3, s4⟩ := p1.2.1 s hs
    obtain ⟨t1, t2, t3, t4, t5⟩ := p2.2.1 s hs
    have hlt : nI s < (us g 0 0) 0 2 := by show nI s < g 0 2; rw [p1.1]; exact hv2
    cases hsv : sv s with
    | none =>
      show V_X10_tag (G 1 4 s) _
      rw [t3 hsv]
      unfold V_X10_tag PP_kind V_X12_kind
      refine eqI ?_
      refine ⟨fun c => absurd c hv1, fun _ => ⟨fun _ => ⟨hin, ?_⟩, fun c => absurd hlt c⟩⟩
      rw [nI_clamp hs1]
      refine ⟨fun _ => ?_, fun c => absurd (s3 hsv) c⟩
      unfold V_X12_thrown
      refine ⟨rfl, fun _ => ?_, hI 0 _⟩
      rw [updL0]; rfl
    | some w =>
      have hw := p4 s w hs hsv
      have hb := hw.rng hR
      show V_X10_tag (G 1 4 s) _
      rw [t4 w hsv, cw]
      refine v_tag (by have := va_kd_lt w; omega) hb.1 hb.2 ?_
      unfold PP_kind V_X12_kind
      refine eqI ?_
      refine ⟨fun c => absurd c hv1, fun _ => ⟨fun _ => ⟨hin, ?_⟩, fun c => absurd hlt c⟩⟩
      rw [nI_clamp hs1]
      refine ⟨fun c => absurd ((s4 w hsv).1.symm.trans c) (by decide), fun _ => ⟨hin, ?_⟩⟩
      show V_X12_sortOf (g 3 s) _
      rw [(s4 w hsv).2]
      refine r_sort hw.ok ?_
      unfold V_X12_thrown
      refine ⟨rfl, fun _ => ?_, hI 0 _⟩
      rw [updL0]
theorem l_number {j N : Nat} {G : SG} {g : St} {k : StL} {f : Nat → Int64} {v : Int32} (h : Inv j N G g k f) (hj : j < 64) : LT_number v N G g k f (fun G1 g1 k1 f1 => Inv (j + 1) N G1 g1 k1 f1) := by
  have hI := fun (x : Int32) (f1 : Nat → Int64) => h.tick (x := x) (f1 := f1) hj
  obtain ⟨z, sy, nam, sv, rc, rn, fs, ft, K, C, lo, hi, hp, φ, b, u, ent, tp, out, inp, lv, at1, bt, h1, h2, h3, h4, h5, h6, h7, h8, h9, h10, h11, h12, h13⟩ := h
  have hR := h5.rng h4.2.2.2.1
  obtain ⟨p1, p2, p3, p4, p5, p6, p7, p8, p9, p10, p11, p12, p13, p14, p15, p16, p17, p18⟩ := h5
  have hsy := p3.2.1
  have hN : N ≤ 4096 := by have := h4.2.2.2.1; omega
  have fin : ∀ i x, i < 2 → x = nI (i + 1) → V_X12_raise x (us g 0 0) k (fun r g1 k1 => V_X12_thrown g1 k1 (fun t1 g2 k2 => t1 = nI (i + 1) ∧ (nI (i + 1) = 0 → f 0 = r.toInt64) ∧ Inv (j + 1) N (uo G 0 (us (G 0) 0 (nI (j + 1)))) g2 k2 f)) := by
    intro i x hi ex
    refine r_raise ?_
    unfold V_X12_thrown
    exact ⟨ex, fun c => absurd c (nI_ne0 (by omega) (by omega)), hI _ _⟩
  unfold LT_number V_X11_number
  refine c_worn (by omega) h3 ?_
  refine ⟨fun _ => ?_, fun c => absurd rfl c⟩
  by_cases hv : v < 0 ∨ nI sy ≤ v
  · refine c_hasNo (g := G 1) p2.1 hv ?_
    refine uoI rfl ?_
    refine ⟨fun c => absurd rfl c, fun _ => ⟨0, rfl, ?_⟩⟩
    unfold PP_number V_X12_number
    refine eqI ?_
    refine ⟨fun _ => fin 0 1 (by decide) rfl, fun c => ⟨fun c2 => ?_, fun _ => fin 0 1 (by decide) rfl⟩⟩
    rcases hv with hv | hv
    · exact absurd hv c
    · have c2 : v < g 0 2 := c2
      rw [p1.1] at c2
      exact absurd c2 (Int32.not_lt.mpr hv)
  · have hv1 : ¬ v < 0 := fun z => hv (Or.inl z)
    have hv2 : v < nI sy := Int32.not_le.mp (fun z => hv (Or.inr z))
    obtain ⟨s, hs1, rfl⟩ := nI_of hv1
    have hs : s < sy := (nI_ltI hs1 (by omega)).mp hv2
    refine c_has (g := G 1) p2.1 hs hsy ?_
    refine uoI rfl ?_
    refine ⟨fun _ => ?_, fun c => absurd c (by decide)⟩
    refine c_word (g := G 1) p2.1 hs hsy ?_
    refine uoI rfl ?_
    have hin : vp_in (nI s) 40 := vp_in_nI (by omega) (by decide)
    obtain ⟨s1, s2, s3, s4⟩ := p1.2.1 s hs
    obtain ⟨t1, t2, t3, t4, t5⟩ := p2.2.1 s hs
    have hlt : nI s < (us g 0 0) 0 2 := by show nI s < g 0 2; rw [p1.1]; exact hv2
    have enter : ∀ (post : Int32 → St → StL → Prop), (¬ (g 2 s) = 0 → V_X12_sortOf (g 3 s) (fun r_9 => ((¬ r_9 = (2 : Int32) → V_X12_sortOf (g 3 s) (fun r_11 => ((¬ r_11 = (3 : Int32) → V_X12_sortOf (g 3 s) (fun r_13 => ((¬ r_13 = (5 : Int32) → V_X12_raise (2 : Int32) (us g 0 0) k (fun r_17 g_15 k_16 => post r_17 g_15 k_16)) ∧ (r_13 = (5 : Int32) → V_X12_load (g 3 s) (fun r_18 => (vp_in r_18 168 ∧ post (((us g 0 0) 9 r_18.toNatClampNeg) - (1 : Int32)) (us g 0 0) k)))))) ∧ (r_11 = (3 : Int32) → V_X12_load (g 3 s) (fun r_19 => post r_19 (us g 0 0) k))))) ∧ (r_9 = (2 : Int32) → V_X12_amount (g 3 s) (fun r_20 => post r_20 (us g 0 0) k))))) → ((g 2 s) = 0 → V_X12_raise (2 : Int32) (us g 0 0) k (fun r_23 g_21 k_22 => post r_23 g_21 k_22)) → V_X12_number (nI s) g k post := by
      intro post w1 w2
      unfold V_X12_number
      refine eqI ?_
      refine ⟨fun c => absurd c hv1, fun _ => ⟨fun _ => ⟨hin, ?_⟩, fun c => absurd hlt c⟩⟩
      rw [nI_clamp hs1]
      exact eqI ⟨hin, w1, w2⟩
    cases hsv : sv s with
    | none =>
      show V_X10_tag (G 1 4 s) _
      rw [t3 hsv]
      unfold V_X10_tag
      refine ⟨fun c => absurd c (by decide), fun c => absurd c (by decide), fun c => absurd c (by decide), fun c => absurd c (by decide), fun _ _ _ _ => ⟨1, rfl, ?_⟩⟩
      unfold PP_number
      exact enter _ (fun c => absurd (s3 hsv) c) (fun _ => fin 1 2 (by decide) rfl)
    | some w =>
      have hw := p4 s w hs hsv
      have hb := hw.rng hR
      have hk := va_kd_lt w
      obtain ⟨e1, e2⟩ := s4 w hsv
      show V_X10_tag (G 1 4 s) _
      rw [t4 w hsv]
      unfold PP_number
      have ans : ∀ (x : Int32) (r : Int32), x = r → (fun r g1 k1 => V_X12_thrown g1 k1 (fun t1 g2 k2 => t1 = (0 : Int32) ∧ ((0 : Int32) = 0 → vp_updL f 0 x.toInt64 0 = r.toInt64) ∧ Inv (j + 1) N (uo G 0 (us (G 0) 0 (nI (j + 1)))) g2 k2 (vp_updL f 0 x.toInt64))) r (us g 0 0) k := by
        intro x r e
        unfold V_X12_thrown
        refine ⟨rfl, fun _ => ?_, hI 0 _⟩
        rw [updL0, e]
      have ne : ¬ g 2 s = 0 := fun c => absurd (e1.symm.trans c) (by decide)
      rcases w with _ | n | n | ⟨n, n2⟩ | n | n | n
      · refine v_tag (t := 1) (h := 0) (by decide) (by decide) (by decide) ?_
        refine ⟨fun c => absurd c (by decide), fun c => absurd c (by decide), fun c => absurd c (by decide), fun c => absurd c (by decide), fun _ _ _ _ => ⟨1, rfl, ?_⟩⟩
        refine enter _ (fun _ => ?_) (fun c => absurd c ne)
        rw [e2]
        refine r_sk (t := 1) hw.ok rfl ⟨fun _ => r_sk (t := 1) hw.ok rfl ⟨fun _ => r_sk (t := 1) hw.ok rfl ⟨fun _ => fin 1 2 (by decide) rfl, fun c => absurd c (by decide)⟩, fun c => absurd c (by decide)⟩, fun c => absurd c (by decide)⟩
      · have hn : -32768 ≤ n ∧ n ≤ 32767 := hw
        refine v_tag (t := 2) (h := n) (by decide) (by omega) (by omega) ?_
        refine ⟨fun _ => ?_, fun c => absurd c (by decide), fun c => absurd c (by decide), fun c => absurd c (by decide), fun c => absurd rfl c⟩
        refine v_held (t := 2) (h := n) (by decide) (by omega) (by omega) ?_
        refine enter _ (fun _ => ?_) (fun c => absurd c ne)
        rw [e2]
        refine r_sk (t := 2) hw.ok rfl ⟨fun c => absurd rfl c, fun _ => r_amount hn.1 hn.2 (ans _ _ rfl)⟩
      · have hn : n < 40 := hw
        refine v_tag (t := 3) (h := n) (by decide) (by omega) (by omega) ?_
        refine ⟨fun c => absurd c (by decide), fun _ => ?_, fun c => absurd c (by decide), fun c => absurd c (by decide), fun _ c => absurd rfl c⟩
        refine v_held (t := 3) (h := n) (by decide) (by omega) (by omega) ?_
        refine enter _ (fun _ => ?_) (fun c => absurd c ne)
        rw [e2]
        refine r_sk (t := 3) hw.ok rfl ⟨fun _ => r_sk (t := 3) hw.ok rfl ⟨fun c => absurd rfl c, fun _ => r_load hw.ok (ans _ _ (iI_nat n))⟩, fun c => absurd c (by decide)⟩
      · refine v_tag (t := 4) (h := _) (by decide) hb.1 hb.2 ?_
        refine ⟨fun c => absurd c (by decide), fun c => absurd c (by decide), fun _ => ⟨1, rfl, ?_⟩, fun c => absurd c (by decide), fun _ _ c => absurd rfl c⟩
        refine enter _ (fun _ => ?_) (fun c => absurd c ne)
        rw [e2]
        refine r_sk (t := 4) hw.ok rfl ⟨fun _ => r_sk (t := 4) hw.ok rfl ⟨fun _ => r_sk (t := 4) hw.ok rfl ⟨fun _ => fin 1 2 (by decide) rfl, fun c => absurd c (by decide)⟩, fun c => absurd c (by decide)⟩, fun c => absurd c (by decide)⟩
      · refine v_tag (t := 4) (h := _) (by decide) hb.1 hb.2 ?_
        refine ⟨fun c => absurd c (by decide), fun c => absurd c (by decide), fun _ => ⟨1, rfl, ?_⟩, fun c => absurd c (by decide), fun _ _ c => absurd rfl c⟩
        refine enter _ (fun _ => ?_) (fun c => absurd c ne)
        rw [e2]
        refine r_sk (t := 4) hw.ok rfl ⟨fun _ => r_sk (t := 4) hw.ok rfl ⟨fun _ => r_sk (t := 4) hw.ok rfl ⟨fun _ => fin 1 2 (by decide) rfl, fun c => absurd c (by decide)⟩, fun c => absurd c (by decide)⟩, fun c => absurd c (by decide)⟩
      · obtain ⟨hn, l, hl⟩ := hw
        have hw : vok (vvec n) := hn
        obtain ⟨x1, x2, x3, x4⟩ := p10.1 n _ hl
        have hle : l.length ≤ 7 := (p12 n _ hl).1
        have x5 : G 2 1 (φ n) = wd 2 l.length := x4 0 (by simp [olen])
        have hlt2 : φ n < N := by
          have x3 : φ n + (l.length + 1) ≤ b + u := x3
          rcases p17 with e | e <;> omega
        refine v_tag (t := 5) (h := _) (by decide) hb.1 hb.2 ?_
        refine ⟨fun c => absurd c (by decide), fun c => absurd c (by decide), fun c => absurd c (by decide), fun _ => ?_, fun _ _ _ c => absurd rfl c⟩
        unfold V_X2_vectorLength
        refine v_held (t := 5) (h := (φ n : Int)) (by decide) hb.1 hb.2 ?_
        rw [iI_nat]
        refine v_hat hlt2 (by omega) ?_
        show V_X10_held (G 2 1 (φ n)) _
        rw [x5]
        refine v_held (by decide) (by omega) (by omega) ?_
        refine uoI rfl ?_
        refine enter _ (fun _ => ?_) (fun c => absurd c ne)
        rw [e2]
        refine r_sk (t := 5) hw rfl ⟨fun _ => r_sk (t := 5) hw rfl ⟨fun _ => r_sk (t := 5) hw rfl ⟨fun c => absurd rfl c, fun _ => r_load hw ⟨vp_in_nI hn (by decide), ?_⟩⟩, fun c => absurd c (by decide)⟩, fun c => absurd c (by decide)⟩
        show V_X12_thrown _ _ _
        rw [show vld (vvec n) = n from rfl, nI_clamp (by omega), show (us g 0 0) 9 n = nI (l.length + 1) from ((p9 n hn).2 _ hl).2.1, nI_pred]
        exact ans _ _ (iI_nat _)
      · refine v_tag (t := 6) (h := _) (by decide) hb.1 hb.2 ?_
        refine ⟨fun c => absurd c (by decide), fun c => absurd c (by decide), fun c => absurd c (by decide), fun c => absurd c (by decide), fun _ _ _ _ => ⟨1, rfl, ?_⟩⟩
        refine enter _ (fun _ => ?_) (fun c => absurd c ne)
        rw [e2]
        refine r_sk (t := 6) hw.ok rfl ⟨fun _ => r_sk (t := 6) hw.ok rfl ⟨fun _ => r_sk (t := 6) hw.ok rfl ⟨fun _ => fin 1 2 (by decide) rfl, fun c => absurd c (by decide)⟩, fun c => absurd c (by decide)⟩, fun c => absurd c (by decide)⟩
