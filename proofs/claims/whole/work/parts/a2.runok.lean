-- ===== both sides run a form alike =====
theorem c_begin {N : Nat} {p : Int32} {G1 : SG} {R : SG → Prop} (k : ∀ G2 : SG, (∀ o, o ≠ 4 → G2 o = G1 o) → G2 4 0 0 = p → G2 4 0 1 = 0 → G2 4 0 2 = 0 → G2 4 0 4 = 0 → G2 4 0 5 = 0 → G2 4 0 6 = G1 4 0 6 → G2 4 0 7 = G1 4 0 7 → R G2) : V_X7_begin N p G1 R := by
  unfold V_X7_begin
  exact eqI (eqI (eqI (eqI (eqI (k _ (fun o ho => by rw [uoN ho, uoN ho, uoN ho, uoN ho, uoN ho]) rfl rfl rfl rfl rfl rfl rfl)))))
theorem clo_sym {sy lo hi : Nat} {w : Va} (h : cloV sy lo hi w) : (∀ s, w = vsym s → s < sy) ∧ ¬ made w := by
  rcases h with h | ⟨y, c, rfl, -, -⟩
  · refine ⟨fun s e => by rw [e] at h; exact h, fun m => ?_⟩
    rcases w with _ | w | w | w | w | w | w
    · exact m
    · exact m
    · exact m
    · exact h.elim
    · exact h.elim
    · exact h.elim
    · exact h.elim
  · exact ⟨fun s e => (by cases e), fun m => m⟩
theorem atm40 {sy : Nat} {w : Va} (h : atm sy w) (hy : sy ≤ 40) : atm 40 w := by
  rcases w with _ | w | w | w | w | w | w
  · trivial
  · exact h
  · exact Nat.lt_of_lt_of_le h hy
  · exact h.elim
  · exact h.elim
  · exact h.elim
  · exact h.elim
theorem atm_ok {w : Va} (h : atm 40 w) : vok w := by
  rcases w with _ | w | w | w | w | w | w
  · trivial
  · exact h
  · exact h
  · exact h.elim
  · exact h.elim
  · exact h.elim
  · exact h.elim
/-- the reference begins -/
theorem r_start {x : Cx} {cv cf : Int32} {sv : Nat → Option Va} {rc : Nat → Va × Va} {hp : Nat → Option Ob} {out : List Nat} {inp : List Int} {cn cn0 : Nat → Int32} {g g1 : St} {k : StL} {v : Va} {p : Nat} (hM : RMod x.z x.sy x.nam sv rc x.rn hp (usum hp 168) out inp cn g k) (hz : g 0 0 = 0) (hcv : cn 4 = cv) (hcf : cn 5 = cf) (e0 : cn0 0 = cn 0) (e1 : cn0 1 = cn 1) (e2 : cn0 2 = 0) (e3 : cn0 3 = 0) (hr : ∀ c, c ≠ 22 → g1 c = g c) : MR x cv cf ((0, p, v), [], sv, rc, hp, out, inp, cn0) (us (us (us (us (us (us (us (us (us g1 19 0) 20 0) 21 0) 12 0) 13 0) 18 0) 14 (enc v)) 15 0) 17 0) k := by
  obtain ⟨m1, m2, m3, m4, m5, m6, m7, m8, m9, m10, m11, m12, m13, m14, m15, m16, m17, m18⟩ := hM
  have r0 := hr 0 (by decide)
  have r1 := hr 1 (by decide)
  have r2 := hr 2 (by decide)
  have r3 := hr 3 (by decide)
  have r4 := hr 4 (by decide)
  have r5 := hr 5 (by decide)
  have r6 := hr 6 (by decide)
  have r7 := hr 7 (by decide)
  have r8 := hr 8 (by decide)
  have r9 := hr 9 (by decide)
  have r10 := hr 10 (by decide)
  have r23 := hr 23 (by decide)
  have r24 := hr 24 (by decide)
  have q : ∀ i, g1 0 i = g 0 i := fun i => by rw [r0]
  refine ⟨⟨(q 1).trans m1, fun i hi => ?_, ?_, ?_, fun s hs => ?_, (q 4).trans m6, (q 7).trans m7, (q 8).trans m8, ⟨(q 24).trans m9.1, fun i hi => ?_⟩, ⟨(q 25).trans m10.1, fun i hi => ?_⟩, ((q 5).trans m11).trans e0.symm, ((q 6).trans m12).trans e1.symm, e2.symm, e3.symm, ((q 22).trans m15).trans hcv, ((q 23).trans m16).trans hcf, (q 0).trans hz⟩, ⟨rfl, rfl, rfl, trivial, fun i hi => absurd hi (Nat.not_lt_zero _), rfl⟩, rfl, rfl, rfl⟩
  · show k 2 i = _ ∧ g1 4 i = _ ∧ g1 5 i = _
    rw [r4, r5]; exact m2 i hi
  · show SymM (g1 0 2) (g1 1) (g1 2) (g1 3) (k 1) x.sy x.nam sv
    rw [r0, r1, r2, r3]; exact m3
  · refine ⟨(q 3).trans m4.1, fun i hi => ?_⟩
    show g1 6 i = _ ∧ g1 7 i = _ ∧ _
    rw [r6, r7]; exact m4.2 i hi
  · show (_ → g1 8 s = 0) ∧ ∀ o, hp s = some o → g1 8 s = _ ∧ g1 9 s = _ ∧ ∀ i, i < (ofs o).length → g1 10 (8 * s + i) = _
    rw [r8, r9, r10]; exact m5 s hs
  · show g1 23 i = _
    rw [r23]; exact m9.2 i hi
  · show g1 24 i = _
    rw [r24]; exact m10.2 i hi
theorem run_ok : RunOK := by
  intro j N z sy nam sv rc rn ft K C lo hi hp φ b u ent tp out inp bt cn v fs G hP hC hF hO n hn post kk
  obtain ⟨p1, p2, p3, p4, p5, p6, p7, p7', p8, p9, p10, p11, p12, p13⟩ := id hP
  obtain ⟨c1, c2, c3, c4, c5, c6, c7, c8, c9, c10, c11, c12, c13, c14, c15, c16, ⟨d1, d2, d3, d4, d5, d6⟩, c18, c19, c20, h8, c21, c22⟩ := id hC
  obtain ⟨hRd, ⟨ft0, f1, f2, f3, f4, f5⟩, f6⟩ := hF
  obtain ⟨K0, o1, o2, o3, o4, o5⟩ := hO
  obtain ⟨S, hCd⟩ := CdE_ex (nam := nam) 12 v fs rn hRd
  have hsy3 := p4.1
  have hsy40 := p4.2.1
  obtain ⟨cl1, cl2⟩ := RdV_clo hsy3 12 v fs rn hRd
  obtain ⟨q1, q2, q3, q4, q5, q6, q7, q8, q9, q10, q11, q12, q13, q14⟩ := id c5
  have hle : fs ≤ rn := RdV_le 12 v fs rn hRd
  have hCf : ∀ i, C i → i < fs := fun i hi => by
    have := (p7 i hi).1
    rcases Nat.lt_or_ge i fs with z | z
    · exact z
    · exact absurd hi (f3 i z this).2
  have hrd : ∀ w, cloV sy fs rn w → (∀ y c, w = vrd y c → c = ft0 + (y - fs)) → atm 40 w ∨ ∃ y c, w = vrd y c ∧ K y c ∧ c < 1024 := fun w hw hc => by
    rcases hw with hw | ⟨y, c, e, a, b9⟩
    · exact Or.inl (atm40 hw hsy40)
    · have e9 := hc y c e
      refine Or.inr ⟨y, c, e, ?_, by omega⟩
      rw [e9]; exact (f3 y a b9).1
  have hrv : rdv K v := hrd v cl2 f5
  have hvok : vok v := by
    rcases hrv with h | ⟨y, c, e, h1, h2⟩
    · exact atm_ok h
    · rw [e]
      have := (q9 y c h1).1
      exact ⟨by omega, h2⟩
  have hout : out.length ≤ 200 := by
    obtain ⟨o, -, -, -, h, -⟩ := c15
    rw [List.length_map] at h; exact h
  have hinp : inp.length ≤ 8 := by
    obtain ⟨o, -, -, -, h, -⟩ := c16
    rw [List.length_map] at h; exact h
  have wfT : ∀ (g : St) (k : StL) (n2 : Nat) (R : Int32 → St → StL → Prop), RMod z sy nam sv rc rn hp u out inp cn g k → 2000000 ≤ n2 → (WFE rc nam 12 v → ∀ g1, (∀ c, c ≠ 22 → g1 c = g c) → R 1 g1 k) → (¬ WFE rc nam 12 v → ∀ g1, (∀ c, c ≠ 22 → g1 c = g c) → R 0 g1 k) → V_X12_wellFormed n2 (enc v) g k R := fun g k n2 R hM hn2 k1 k0 => by
    obtain ⟨m1, m2, m3, m4, -⟩ := hM
    exact r_wf m4 (by omega) p4 (fun s hs => (m3.2.1 s hs).2.1) (fun i hi => (m2 i hi).2) hRd (Nat.le_refl _) hvok (by omega) k1 k0
  have hCoH : CoH N n φ rc K (fun i => C i ∨ (fs ≤ i ∧ i < rn ∧ S i)) sy nam S fs rn G := by
    refine ⟨fun i x hx => ⟨by have := q9 i x hx; omega, q13 i x (Or.inl hx)⟩, by omega, by omega, by omega, p4, c4.1, fun s hs => (c4.2.1 s hs).2.1, fun x a b9 => ⟨hrd _ (cl1 x a b9).1 (f4 x a b9).1, fun i c e => ?_⟩, fun x a b9 => ⟨fun c => ?_, fun c => Or.inr ⟨a, b9, c⟩⟩, by omega⟩
    · rcases hrd _ (cl1 x a b9).2 (f4 x a b9).2 with h | ⟨y, c9, h, h1, -⟩
      · rw [e] at h; exact h.elim
      · rw [e] at h; cases h; exact h1
    · rcases c with c | c
      · exact absurd c (f3 x a b9).2
      · exact c.2.2
  unfold V_X7_run
  refine c_compile hCoH c22 c21 c11 (by omega) hCd hrv (fun hw G1 q e0 g1 g8 g7 hq hlow hq0 hA => ⟨fun _ => ?_, fun c => absurd (nI_le (a := 0) (Nat.zero_le _) (by omega)) c⟩) (fun hw G1 g1 g8 g7 hlow => ⟨fun c => absurd c (by decide), fun _ => eqI ?_⟩)
  · -- the form is well
    refine c_begin (fun G2 b1 b40 b41 b42 b44 b45 b46 b47 => eqI ?_)
    have hlt : tp < q := AtE_lt 13 [] v tp q (hA _ (fun i _ _ => rfl))
    have go : ∀ o, o ≠ 4 → o ≠ 7 → o ≠ 8 → G2 o = G o := fun o h4 h7 h8 => (b1 o h4).trans (g1 o h7 h8)
    have g4 : G1 4 = G 4 := g1 4 (by decide) (by decide)
    have z6 : G2 4 0 6 = cn 4 := by rw [b46, g4]; exact d5
    have z7 : G2 4 0 7 = cn 5 := by rw [b47, g4]; exact d6
    have hV0 : ∀ hp' w, VV K0 C hp' w → VV K (fun i => C i ∨ (fs ≤ i ∧ i < rn ∧ S i)) hp' w := fun hp' w hw => VV_K (fun i x a b9 => ⟨(o1 i x a).2, fun c => by
      rcases c with c | c
      · exact b9 c
      · have := (o1 i x a).1
        have := c.1
        omega⟩) hw
    have hent : ∀ i, C i → (if fs ≤ i ∧ i < rn then e0 i else ent i) = ent i := fun i hi => if_neg (fun c => by have := hCf i hi; omega)
    have hX : XC ((z, sy, rn, ft, q + 1), nam, K, (fun i => C i ∨ (fs ≤ i ∧ i < rn ∧ S i)), (fun i => if fs ≤ i ∧ i < rn then e0 i else ent i), G1 7 1, rc) G2 N := by
      refine ⟨⟨p2, p3, p4, fun i hi => ?_, fun i y hy => ?_, ?_, ?_⟩, c1, ?_, ?_⟩
      · rcases hi with hi | ⟨a, b9, -⟩
        · exact p7 i hi
        · obtain ⟨y1, y2⟩ := cl1 i a b9
          exact ⟨b9, (clo_sym y1).1, (clo_sym y1).2, (clo_sym y2).2⟩
      · have := q9 i y hy
        exact ⟨this.1, by omega⟩
      · show rn ≤ 900
        omega
      · show q + 1 ≤ 1400
        omega
      · show G2 7 1 = G1 7 1
        rw [b1 7 (by decide)]
      · show ft ≤ 1000
        omega
    have hKf : Kfun ((z, sy, rn, ft, q + 1), nam, K, (fun i => C i ∨ (fs ≤ i ∧ i < rn ∧ S i)), (fun i => if fs ≤ i ∧ i < rn then e0 i else ent i), G1 7 1, rc) := q10
    have hOb : ∀ s o, hp s = some o → ObR rc nam K (fun i => C i ∨ (fs ≤ i ∧ i < rn ∧ S i)) (G1 7 1) (q + 1) (fun i => if fs ≤ i ∧ i < rn then e0 i else ent i) hp o := fun s o ho =>
      ObR_tr2 (by omega) (fun p hp9 => hlow p hp9) (fun i hi => ⟨Or.inl hi, rfl⟩) (fun i hi => rfl) (fun w hw => hV0 _ w hw) hent o (fun w _ hw => hV0 _ w hw) (fun sc he => EnvR_tr (fun i hi => ⟨Or.inl hi, rfl⟩) (fun s p q l h => ⟨l, h, rfl⟩) sc _ he) (o5 s o ho)
    have hW : PW ((z, sy, rn, ft, q + 1), nam, K, (fun i => C i ∨ (fs ≤ i ∧ i < rn ∧ S i)), (fun i => if fs ≤ i ∧ i < rn then e0 i else ent i), G1 7 1, rc) sv rc hp out inp := by
      refine ⟨fun s w hs hw => hV0 _ w (o3 s w hs hw), fun i y hy hc => ?_, fun i _ => rfl, p7', fun i hi => ?_, fun s o ho => ⟨(c6.1 s o ho).1, hOb s o ho⟩, by rw [p8]; exact p9, ⟨hout, p10⟩, hinp, p11⟩
      · rcases Nat.lt_or_ge i fs with hlt9 | hge
        · have hk0 := o2 i y hy hlt9
          have := o4 i y hk0 (fun c => hc (Or.inl c))
          exact ⟨hV0 _ _ this.1, hV0 _ _ this.2⟩
        · have hr := (q9 i y hy).1
          have hq9 := CdE_q hsy3 12 v fs rn hCd i hge hr (fun c => hc (Or.inr ⟨hge, hr, c⟩))
          have hvv := p6 i y hy (fun c => hc (Or.inl c))
          have key : ∀ w, qV S w → VV K C hp w → VV K (fun i => C i ∨ (fs ≤ i ∧ i < rn ∧ S i)) hp w := fun w hqw hw => by
            rcases w with _ | w | w | ⟨w, w2⟩ | w | w | w
            · exact hw
            · exact hw
            · exact hw
            · obtain ⟨a1, a2, a3, a4⟩ := hw
              refine ⟨a1, fun c => ?_, a3, a4⟩
              rcases c with c | c
              · exact a2 c
              · exact hqw w w2 rfl c.2.2
            · exact hw
            · exact hw
            · exact hw
          exact ⟨key _ hq9.1 hvv.1, key _ hq9.2 hvv.2⟩
      · obtain ⟨y1, y2⟩ := q14 i hi
        exact ⟨fun m => by obtain ⟨y, hy, -⟩ := y1 m; exact ⟨y, hy⟩, fun m => by obtain ⟨y, hy, -⟩ := y2 m; exact ⟨y, hy⟩⟩
    have hPA : PA ((z, sy, rn, ft, q + 1), nam, K, (fun i => C i ∨ (fs ≤ i ∧ i < rn ∧ S i)), (fun i => if fs ≤ i ∧ i < rn then e0 i else ent i), G1 7 1, rc) ((0, tp, v), [], sv, rc, hp, out, inp, (fun i => ([cn 0, cn 1, 0, 0] : List Int32).getD i 0)) := by
      refine ⟨hW, ⟨0, 0, rfl, rfl, by decide, by decide, Nat.le_refl _, Nat.le_refl _⟩, hvok, fun s e => ?_, 13, [], q, hA _ (fun i a b9 => if_pos ⟨a, b9⟩), Nat.lt_succ_self q, by decide, rfl, Nat.le_refl _, q, rfl, Nat.lt_succ_self q, hq0⟩
      exact (clo_sym cl2).1 s e
    have h0 : CS0 ((z, sy, rn, ft, q + 1), nam, K, (fun i => C i ∨ (fs ≤ i ∧ i < rn ∧ S i)), (fun i => if fs ≤ i ∧ i < rn then e0 i else ent i), G1 7 1, rc) G2 j (bt + (rn - fs) + 1) := by
      refine ⟨p1, p12, f6, ?_, ?_, ?_, ?_, ?_, 0, Nat.zero_le _, ?_⟩
      · show q + 1 ≤ 8 * (bt + (rn - fs) + 1)
        omega
      · rw [go 0 (by decide) (by decide) (by decide)]; exact c2
      · rw [go 3 (by decide) (by decide) (by decide)]; exact c13
      · rw [go 3 (by decide) (by decide) (by decide)]; exact c14
      · rw [b1 7 (by decide)]; exact g7
      · rw [b1 8 (by decide)]; exact g8
    obtain ⟨F, F1, F2, F3, F4⟩ := d_run (cv := cn 4) (cf := cn 5) hX hKf 3010 _ (by show 3 * (1001 - _) + 0 + 1 ≤ 3010; omega) hPA
    have hows : ∀ s o, hp s = some o → ows φ (fun i => if fs ≤ i ∧ i < rn then e0 i else ent i) o = ows φ ent o := fun s o ho => by
      have hob := o5 s o ho
      rcases o with o | o | ⟨r, e⟩ | o
      · rfl
      · rfl
      · obtain ⟨d, sc, ps, b9, p9, hr, -⟩ := hob
        show [wd 2 (((if fs ≤ r ∧ r < rn then e0 r else ent r : Nat)) : Int), fw φ e] = [wd 2 ((ent r : Nat) : Int), fw φ e]
        rw [hent r hr]
      · rfl
    have hCR : CR ((z, sy, rn, ft, q + 1), nam, K, (fun i => C i ∨ (fs ≤ i ∧ i < rn ∧ S i)), (fun i => if fs ≤ i ∧ i < rn then e0 i else ent i), G1 7 1, rc) G2 ((0, tp, v), [], sv, rc, hp, out, inp, (fun i => ([cn 0, cn 1, 0, 0] : List Int32).getD i 0)) G2 := by
      have g2 := go 2 (by decide) (by decide) (by decide)
      refine ⟨φ, b, lo, hi, ⟨?_, ?_, ⟨fun s o ho => ?_, c6.2⟩, ?_, ?_, c10, ?_, ?_, ?_, ?_, ?_, b44, b45, fun o _ => rfl, rfl, rfl⟩, ?_, ?_, ?_, b40, b41, b42⟩
      · rw [go 1 (by decide) (by decide) (by decide)]; exact c4
      · rw [g2]; exact c5
      · obtain ⟨y1, y2, y3, y4⟩ := c6.1 s o ho
        refine ⟨y1, y2, by rw [p8]; exact y3, fun i hi => ?_⟩
        rw [g2]
        show G 2 1 (φ s + i) = (ows φ (fun i => if fs ≤ i ∧ i < rn then e0 i else ent i) o).getD i 0
        rw [hows s o ho]; exact y4 i hi
      · rw [g2, p8]; exact c8
      · rw [g2]; exact c9
      · rw [g2]; exact c3
      · rw [go 6 (by decide) (by decide) (by decide)]; exact c15
      · rw [go 5 (by decide) (by decide) (by decide)]; exact c16
      · rw [g2]; exact d1
      · rw [g2]; exact d2
      · rw [go 9 (by decide) (by decide) (by decide)]; exact c18
      · rw [go 10 (by decide) (by decide) (by decide)]; exact c19
      · rw [go 11 (by decide) (by decide) (by decide)]; exact c20
    have ref0 : ∀ (g : St) (k : StL) (n2 : Nat) (postM : Int32 → St → StL → Prop), RMod z sy nam sv rc rn hp u out inp cn g k → g 0 0 = 0 → 2000000 ≤ n2 → (∀ (g1 : St) (k1 : StL) (n1 : Nat), MR ((z, sy, rn, ft, q + 1), nam, K, (fun i => C i ∨ (fs ≤ i ∧ i < rn ∧ S i)), (fun i => if fs ≤ i ∧ i < rn then e0 i else ent i), G1 7 1, rc) (cn 4) (cn 5) F g1 k1 → 20000 ≤ n1 → V_X12_run_69 postM n1 g1 k1) → V_X12_run n2 (enc v) g k postM := by
      intro g k n2 postM hM hz hn2 kF
      unfold V_X12_run
      refine wfT g k n2 _ hM hn2 (fun _ g1 hr => ⟨fun _ => ?_, fun c => absurd c (by decide)⟩) (fun c => absurd hw c)
      refine eqI (eqI (eqI (eqI (eqI (eqI (eqI (eqI (eqI ?_))))))))
      rw [← p8] at hM
      exact F4 _ k postM n2 (r_start (x := ((z, sy, rn, ft, q + 1), nam, K, (fun i => C i ∨ (fs ≤ i ∧ i < rn ∧ S i)), (fun i => if fs ≤ i ∧ i < rn then e0 i else ent i), G1 7 1, rc)) hM hz rfl rfl rfl rfl rfl rfl hr) (by omega) kF
    refine F3 G2 post n 0 hCR (by omega) (by omega) (fun G3 n1 i1 h3 b1' b2' => ?_)
    rcases F with ⟨⟨md, pF, vF⟩, KF, svF, rcF, hpF, outF, inpF, cnF⟩
    cases md with
    | zero => exact F2.elim
    | succ md =>
      cases md with
      | zero =>
        have eK : KF = [] := F2
        subst eK
        obtain ⟨φF, bF, loF, hiF, h3⟩ := h3
        obtain ⟨y1, y2, y3, y4⟩ := F1
        refine e_clsV hX y1 y3 (by omega) (by omega) y4 h3 (fun G5 hCF hAns => ?_)
        rw [z6, z7] at hCF
        refine kk 0 (vkd vF) G5 (by decide) (fun _ => hAns) (fun g k hM hz n2 hn2 f postM kM => ref0 g k n2 postM hM hz hn2 (fun g3 k3 n3 h3 hn3 => ?_))
        obtain ⟨n3, rfl⟩ : ∃ n', n3 = n' + 1 := ⟨n3 - 1, by omega⟩
        obtain ⟨t1, t2, t3, t4⟩ := h3
        exact e_refV (p := 0) hX h0 (PW_sv y1 y3) y3 t1 t2 t3 t4 hCF (fun r2 g2 k2 e1 e2 inv => kM r2 g2 k2 e1 (fun _ => e2) inv)
      | succ e =>
        obtain ⟨φF, bF, loF, hiF, h3⟩ := h3
        obtain ⟨y1, y2, y3⟩ := F1
        obtain ⟨n1, rfl⟩ : ∃ n', n1 = n' + 1 := ⟨n1 - 1, by omega⟩
        refine e_clsE y2 y3 (by omega) h3 (fun G5 hCF => ?_)
        rw [z6, z7] at hCF
        refine kk e 0 G5 y3 (fun c => absurd c (by omega)) (fun g k hM hz n2 hn2 f postM kM => ref0 g k n2 postM hM hz hn2 (fun g3 k3 n3 h3 hn3 => ?_))
        obtain ⟨n3, rfl⟩ : ∃ n', n3 = n' + 1 := ⟨n3 - 1, by omega⟩
        obtain ⟨t1, t2⟩ := h3
        exact e_refE hX h0 y1 y2 y3 t1 t2 hCF (fun r2 g2 k2 e1 inv => kM r2 g2 k2 e1 (fun c => absurd c (by omega)) inv)
  · -- the form is not well
    refine kk 1 0 _ (by decide) (fun c => absurd c (by decide)) (fun g k hM hz n2 hn2 f postM kM => ?_)
    unfold V_X12_run
    refine wfT g k n2 _ hM hn2 (fun c => absurd c hw) (fun _ gw hr => ⟨fun c => absurd rfl c, fun _ => eqI ?_⟩)
    unfold V_X12_raise
    refine eqI (kM _ _ k rfl (fun c => absurd c (by decide)) ?_)
    have go : ∀ o, o ≠ 4 → o ≠ 7 → o ≠ 8 → (uo G1 4 (us (G1 4) 7 (G1 4 0 7 + 1))) o = G o := fun o h4 h7 h8 => by rw [uoN h4]; exact g1 o h7 h8
    have g4 : G1 4 = G 4 := g1 4 (by decide) (by decide)
    have g2 := go 2 (by decide) (by decide) (by decide)
    refine Inv_of j N z sy nam sv rc rn ft K C lo hi hp φ b u ent tp out inp bt (fun i => ([cn 0, cn 1, cn 2, cn 3, cn 4, cn 5 + 1] : List Int32).getD i 0) hP ?_ ?_
    · refine ⟨c1, ?_, ?_, ?_, ?_, ?_, fun s o ho => ?_, ?_, ?_, c10, g7, c12, ?_, ?_, ?_, ?_, ⟨?_, ?_, ?_, ?_, ?_, ?_⟩, ?_, ?_, ?_, 0, Nat.zero_le _, g8⟩
      · rw [go 0 (by decide) (by decide) (by decide)]; exact c2
      · rw [g2]; exact c3
      · rw [go 1 (by decide) (by decide) (by decide)]; exact c4
      · rw [g2]; exact c5
      · rw [g2]; exact c6
      · show ObR rc nam K C (G1 7 1) tp ent hp o
        exact ObR_tr2 (Nat.le_refl _) (fun p hp9 => hlow p hp9) (fun i hi => ⟨hi, rfl⟩) (fun i hi => rfl) (fun _ h => h) (fun _ _ => rfl) o (fun w _ hw => hw) (fun sc he => EnvR_tr (fun i hi => ⟨hi, rfl⟩) (fun s p q l h => ⟨l, h, rfl⟩) sc _ he) (c7 s o ho)
      · rw [g2]; exact c8
      · rw [g2]; exact c9
      · rw [go 3 (by decide) (by decide) (by decide)]; exact c13
      · rw [go 3 (by decide) (by decide) (by decide)]; exact c14
      · rw [go 6 (by decide) (by decide) (by decide)]; exact c15
      · rw [go 5 (by decide) (by decide) (by decide)]; exact c16
      · rw [g2]; exact d1
      · rw [g2]; exact d2
      · show G1 4 0 4 = cn 2
        rw [g4]; exact d3
      · show G1 4 0 5 = cn 3
        rw [g4]; exact d4
      · show G1 4 0 6 = cn 4
        rw [g4]; exact d5
      · show G1 4 0 7 + 1 = cn 5 + 1
        rw [g4, d6]
      · rw [go 9 (by decide) (by decide) (by decide)]; exact c18
      · rw [go 10 (by decide) (by decide) (by decide)]; exact c19
      · rw [go 11 (by decide) (by decide) (by decide)]; exact c20
    · obtain ⟨m1, m2, m3, m4, m5, m6, m7, m8, m9, m10, m11, m12, m13, m14, m15, m16, m17, m18⟩ := hM
      have q9' : ∀ i, gw 0 i = g 0 i := fun i => by rw [hr 0 (by decide)]
      refine ⟨(q9' 1).trans m1, fun i hi => ?_, ?_, ?_, fun s hs => ?_, (q9' 4).trans m6, (q9' 7).trans m7, (q9' 8).trans m8, ⟨(q9' 24).trans m9.1, fun i hi => ?_⟩, ⟨(q9' 25).trans m10.1, fun i hi => ?_⟩, (q9' 5).trans m11, (q9' 6).trans m12, (q9' 19).trans m13, (q9' 21).trans m14, (q9' 22).trans m15, ?_, (q9' 12).trans m17, (q9' 13).trans m18⟩
      · show k 2 i = _ ∧ gw 4 i = _ ∧ gw 5 i = _
        rw [hr 4 (by decide), hr 5 (by decide)]; exact m2 i hi
      · show SymM (gw 0 2) (gw 1) (gw 2) (gw 3) (k 1) sy nam sv
        rw [q9', hr 1 (by decide), hr 2 (by decide), hr 3 (by decide)]; exact m3
      · refine ⟨(q9' 3).trans m4.1, fun i hi => ?_⟩
        show gw 6 i = _ ∧ gw 7 i = _ ∧ _
        rw [hr 6 (by decide), hr 7 (by decide)]; exact m4.2 i hi
      · show (_ → gw 8 s = 0) ∧ ∀ o, hp s = some o → gw 8 s = _ ∧ gw 9 s = _ ∧ ∀ i, i < (ofs o).length → gw 10 (8 * s + i) = _
        rw [hr 8 (by decide), hr 9 (by decide), hr 10 (by decide)]; exact m5 s hs
      · show gw 23 i = _
        rw [hr 23 (by decide)]; exact m9.2 i hi
      · show gw 24 i = _
        rw [hr 24 (by decide)]; exact m10.2 i hi
      · show gw 0 23 + 1 = cn 5 + 1
        rw [q9', m16]
