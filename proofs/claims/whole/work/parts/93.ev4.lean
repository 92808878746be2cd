-- ===== compiling in the class: evaluation, and the whole form =====
section CH
variable {N n : Nat} {φ : Nat → Nat} {rc : Nat → Va × Va} {K : Nat → Nat → Prop} {C1 : Nat → Prop} {sy : Nat} {nam : Nat → List Nat} {S : Nat → Prop} {fs rn : Nat} {G0 : SG}
theorem WFE_atm {d : Nat} {v : Va} (h : atm sy v) : WFE rc nam d v := by
  cases d with
  | zero => trivial
  | succ d =>
    rcases v with _ | v | v | v | v | v | v
    · trivial
    · trivial
    · trivial
    · exact h.elim
    · exact h.elim
    · exact h.elim
    · exact h.elim
theorem ev_atm {d df dp lo hi p : Nat} {v : Va} {G : SG} {VS : List Va} {sc : List (List Nat)} {post : Int32 → SG → Prop} (hH : CoH N n φ rc K C1 sy nam S fs rn G0) (hdf : d + 2 ≤ df) (hdp : dp + d ≤ 12) (hat : atm sy v) (hG : CoG φ G0 VS p G) (h8 : p + 8 * (hi - lo) + 3 ≤ 1500) (hVS : VS.length + d ≤ 12) (hSc : ScR rc K VS sc) (k1 : WFE rc nam d v → CoK φ G0 VS G (fun c1 ent1 q => AtE rc nam K C1 c1 ent1 (d + 1) sc v p q) lo hi p (p + 8 * (hi - lo) + 3) (post 1)) : V_X1_evaluation N n df (cw φ v) (nI dp) G post := by
  obtain ⟨df, rfl⟩ : ∃ df', df = df' + 1 := ⟨df - 1, by omega⟩
  have hy := hH.2.2.2.2.1.2.1
  unfold V_X1_evaluation
  refine ⟨fun _ => e_emit hG (by omega) (fun G1 hG1 c1 => ?_), fun c => absurd (nI_le (b := 12) (by omega) (by decide)) c⟩
  have word : ¬ made v → vok v → (∀ s, v ≠ vsym s) → (∀ i c, v ≠ vrd i c) → V_X1_emit_ N 2 (cw φ v) G1 (fun g_11 => post 1 g_11) := by
    intro hm hok hns hnr
    refine e_emit2 hG1 (by omega) (fun G2 hG2 c2 => ?_)
    refine k1 (WFE_atm hat) G2 (p + 3) (fun _ => 0) hG2 (by omega) (by omega) (fun x hx => ?_) (fun c3 ent1 hc he => ?_)
    · rw [c2, updI, if_neg (by omega), updI, if_neg (by omega), c1, updI, if_neg (by omega)]
    · have d0 : c3 p = 1 := by rw [hc p (by omega) (by omega), c2, updI, if_neg (by omega), updI, if_neg (by omega), c1, updE]
      have d1 : c3 (p + 1) = 2 := by rw [hc (p + 1) (by omega) (by omega), c2, updI, if_neg (by omega), updE]
      have d2 : c3 (p + 2) = cw (fun _ => 0) v := by rw [hc (p + 2) (by omega) (by omega), c2, show p + 1 + 1 = p + 2 from rfl, updE]; exact rdv_cw (K := K) (Or.inl (by
        rcases v with _ | v | v | v | v | v | v
        · trivial
        · exact hat
        · exact absurd rfl (hns v)
        · exact hat.elim
        · exact hat.elim
        · exact hat.elim
        · exact hat.elim))
      rcases v with _ | v | v | v | v | v | v
      · exact ⟨d0, d1, d2, rfl, hm, hok⟩
      · exact ⟨d0, d1, d2, rfl, hm, hok⟩
      · exact absurd rfl (hns v)
      · exact hat.elim
      · exact hat.elim
      · exact hat.elim
      · exact hat.elim
  refine tag_at hat hy (fun t ht et => ?_)
  rcases v with _ | v | v | v | v | v | v
  · subst et
    exact ⟨fun c => absurd c (by decide), fun c => absurd c (by decide), fun _ _ => word (fun h => h) trivial (fun s e => (by cases e)) (fun i c e => (by cases e))⟩
  · subst et
    exact ⟨fun c => absurd c (show ¬ nI 2 = 3 by decide), fun c => absurd c (show ¬ nI 2 = 4 by decide), fun _ _ => word (fun h => h) hat (fun s e => (by cases e)) (fun i c e => (by cases e))⟩
  · have hv : v < sy := hat
    subst et
    refine ⟨fun _ => ?_, fun c => absurd c (show ¬ nI 3 = 4 by decide), fun c => absurd rfl c⟩
    have fin : ∀ (w x : Int32) (G2 : SG), CoG φ G0 VS (p + 3) G2 → G2 7 1 = upd (upd (G1 7 1) (p + 1) w) (p + 2) x → ((∀ pl, loc sc v = some pl → w = 5 ∧ x = nI pl) ∧ (loc sc v = none → w = 3 ∧ x = nI v)) → post 1 G2 := by
      intro w x G2 hG2 c2 hwx
      refine k1 (WFE_atm hat) G2 (p + 3) (fun _ => 0) hG2 (by omega) (by omega) (fun x hx => ?_) (fun c3 ent1 hc he => ?_)
      · rw [c2, updI, if_neg (by omega), updI, if_neg (by omega), c1, updI, if_neg (by omega)]
      · have d0 : c3 p = 1 := by rw [hc p (by omega) (by omega), c2, updI, if_neg (by omega), updI, if_neg (by omega), c1, updE]
        have d1 : c3 (p + 1) = w := by rw [hc (p + 1) (by omega) (by omega), c2, updI, if_neg (by omega), updE]
        have d2 : c3 (p + 2) = x := by rw [hc (p + 2) (by omega) (by omega), c2, updE]
        exact ⟨d0, rfl, by omega, fun pl hl => by rw [d1, d2]; exact hwx.1 pl hl, fun hl => by rw [d1, d2]; exact hwx.2 hl⟩
    refine e_emF hH hG1 hSc (by omega) (by omega) (by omega) (fun pl hl G2 hG2 c2 => fin _ _ G2 hG2 c2 ⟨fun pl2 h2 => ?_, fun h2 => ?_⟩) (fun hl G2 hG2 c2 => fin _ _ G2 hG2 c2 ⟨fun pl2 h2 => ?_, fun _ => ⟨rfl, rfl⟩⟩)
    · rw [hl] at h2; cases h2; exact ⟨rfl, rfl⟩
    · rw [hl] at h2; cases h2
    · rw [hl] at h2; cases h2
  · exact hat.elim
  · exact hat.elim
  · exact hat.elim
  · exact hat.elim
theorem ev_step {d : Nat} (hH : CoH N n φ rc K C1 sy nam S fs rn G0) (hE : EvP N n φ rc K C1 sy nam S fs rn G0 d) : EvP N n φ rc K C1 sy nam S fs rn G0 (d + 1) := by
  intro df dp v lo hi p G VS sc post hdf hdp hCd hrv h5 h6 hG h8 hVS hSc k1 k0
  obtain ⟨hM, hN1, hN2, hn, hNm, hsy0, hops, hcell, hC1, hrn⟩ := id hH
  have main : ∀ i c l, v = vrd i c → inF rc K fs rn (vrd i c) (i :: l) → lo + (l.length + 1) ≤ hi → (∀ s, (rc i).1 = vsym s → s < sy) → (opV nam (rc i).1 ≠ 1 → Inc rc (CdE rc sy nam S d) (i :: l) lo hi) → (opV nam (rc i).1 = 1 → ∀ a, l = [a] → VV K C1 (fun _ => none) (rc a).1) → (∀ x ∈ i :: l, C1 x) → V_X1_evaluation N n df (cw φ v) (nI dp) G post := by
    intro i c l ev h3 hll hss h4 hq hCl
    subst ev
    obtain ⟨df, rfl⟩ : ∃ df', df = df' + 1 := ⟨df - 1, by omega⟩
    obtain ⟨c', e', hk, hi1, hi2⟩ := inF_hd h3
    cases e'
    have hc1 := (hM i c hk).1
    have h3l := inF_tl hH h3
    unfold V_X1_evaluation
    refine ⟨fun _ => e_emit hG (by omega) (fun G1 hG1 c1 => ?_), fun c => absurd (nI_le (b := 12) (by omega) (by decide)) c⟩
    have hwf : WFE rc nam (d + 1) (vrd i c) ↔ (arOK (opV nam (rc i).1) l.length ∧ wfC rc l (opV nam (rc i).1) ∧ ∀ x ∈ wfP i l (opV nam (rc i).1), WFE rc nam d (rc x).1) := by
      rw [WFO_iff (F := WFE rc nam d) (by omega) (opV nam (rc i).1)]
      refine ⟨fun h => ?_, fun h => ⟨l, h3l.1, h⟩⟩
      obtain ⟨l2, a1, a2⟩ := h
      rw [Lst_uni l l2 _ h3l.1 a1]; exact a2
    have sm : ∀ a, a < p → G1 7 1 a = G 7 1 a := fun a ha => by rw [c1, updI, if_neg (by omega)]
    have go : V_X1_list_42 N (fun a b G p => V_X1_evaluation N n df a b G p) (fun r g => (r = 0 ∨ r = 1) ∧ post r g) n (cw φ (vrd i c)) (nI dp) (cw φ (rc i).2) (nI (opV nam (rc i).1)) G1 := by
      refine c_l42 (lo := lo) (hi := hi) (p0 := p) (sc := sc) hE hH (opV_lt nam _) rfl (by omega) (by omega) (by omega) hSc h3 hll h4 hq h5 h6 hG1 h8 hwf (fun hw => ?_) (fun hw => ?_)
      · intro G2 q e0 hG2 hp2 hq2 hs2 hA
        refine ⟨Or.inr rfl, k1 hw G2 q e0 hG2 (by omega) hq2 (fun a ha => (hs2 a (by omega)).trans (sm a ha)) (fun c2 ent1 hc he => ⟨?_, hCl i (by simp), l, h3l.1, fun x hx => hCl x (by simp [hx]), hA c2 ent1 (fun a ha hb => hc a (by omega) hb) he⟩)⟩
        rw [hc p (by omega) (by omega), hs2 p (by omega), c1, updE]
      · intro G2 q hG2 hp2 hq2 hs2
        exact ⟨Or.inl rfl, k0 hw G2 q hG2 (by omega) hq2 (fun a ha => (hs2 a (by omega)).trans (sm a ha))⟩
    rw [cw_rd]
    refine v_tag (by decide) (by omega) (by omega) ⟨fun c => absurd c (by decide), fun _ => ?_, fun _ c => absurd rfl c⟩
    rw [← cw_rd (φ := φ) i c]
    unfold V_X1_list
    refine e_car hH hG1 hk (e_cdr hH hG1 hk (rdv_tag (hcell i hi1 hi2).1 ⟨fun c3 => ?_, fun c3 => ?_⟩))
    · have e : opV nam (rc i).1 = 0 := by
        cases e : (rc i).1 with
        | none => rfl
        | some w =>
          rcases w with w | w | w
          · rfl
          · rw [e] at c3; exact absurd rfl c3
          · rfl
      rw [e] at go
      exact go
    · have hsy : ∃ s, (rc i).1 = vsym s := by
        cases hv : (rc i).1 with
        | none => rw [hv] at c3; exact absurd c3 (by decide)
        | some w =>
          rw [hv] at c3
          rcases w with w | w | w | w | w | w
          · exact absurd c3 (show ¬ nI 2 = 3 by decide)
          · exact ⟨w, rfl⟩
          · exact absurd c3 (show ¬ nI 4 = 3 by decide)
          · exact absurd c3 (show ¬ nI 4 = 3 by decide)
          · exact absurd c3 (show ¬ nI 5 = 3 by decide)
          · exact absurd c3 (show ¬ nI 6 = 3 by decide)
      obtain ⟨s, es⟩ := hsy
      have hs := hss s es
      have hy := hNm.2.1
      rw [es]
      refine v_held (t := 3) (h := (s : Nat)) (by decide) (by omega) (by omega) ?_
      rw [iI_nat]
      unfold V_X9_operator
      refine c_has (s := s) (by rw [hG1.g1]; exact hsy0) hs hy ⟨fun c => absurd c (by decide), fun _ => ⟨vp_in_nI (by omega) (by decide), eqI ?_⟩⟩
      rw [show uo G1 1 (G1 1) = G1 from uo_id rfl, nI_clamp (by omega), hG1.g1, hops s hs]
      have e : opV nam (rc i).1 = opx (nam s) := by rw [es]; rfl
      rw [e] at go
      exact go
  rcases hCd with h | ⟨i, l, h1, h2, h3, h4, h5'⟩ | ⟨m, c, h1, h2, h3, h4, h5', h6', h7, h9⟩
  · exact ev_atm hH hdf hdp h.1 hG h8 hVS hSc k1
  · obtain ⟨⟨c, ev⟩, hL⟩ := id h1
    have hin := (Inc_in (RdV_le d) _ lo hi h2).2
    have hl := Inc_len (RdV_le d) _ lo hi h2
    have hin9 : ∀ x ∈ i :: l, fs ≤ x ∧ x < rn := fun x hx => by have := hin x hx; omega
    refine main i c l ev ⟨⟨⟨c, rfl⟩, hL⟩, by rw [← ev]; exact rdv_kV hrv, by omega, hin9⟩ hl (fun s e => RdV_sym h2.1 e) h5' (fun e a ea => ?_) (fun x hx => (hC1 x (hin9 x hx).1 (hin9 x hx).2).mpr (h3 x hx))
    subst ea
    have hRa := h2.2.1
    obtain ⟨-, hcl⟩ := RdV_clo hNm.1 d _ _ _ hRa
    have ha := hin9 a (by simp)
    have hra := (hcell a ha.1 ha.2).1
    rcases hra with hra | ⟨y, cy, ey, hky, hcy⟩
    · cases hv : (rc a).1 with
      | none => trivial
      | some w =>
        rw [hv] at hra
        rcases w with w | w | w
        · exact hra
        · exact hra
        · exact hra.elim
    · rw [ey] at hcl ⊢
      rcases hcl with hcl | ⟨y1, c1, e1, b1, b2⟩
      · exact hcl.elim
      · cases e1
        have hai := hin a (by simp)
        refine ⟨hky, fun hc => ?_, by omega, hcy⟩
        have hi9 := hin i (by simp)
        exact h4 e y (by omega) (by omega) (fun hm => by simp at hm; omega) ((hC1 y (by omega) (by omega)).mp hc)
  · have hle := RdV_le d _ _ _ h4
    have hin9 : ∀ x ∈ [m + 1, m], fs ≤ x ∧ x < rn := fun x hx => by simp at hx; omega
    refine main (m + 1) c [m] h1 ⟨⟨⟨c, rfl⟩, h3⟩, by rw [← h1]; exact rdv_kV hrv, by show 2 < 900; decide, hin9⟩ (by show lo + (1 + 1) ≤ hi; omega) (fun s e => ?_) (fun e => absurd (by rw [h2]; exact op_q hNm) e) (fun e a ea => ?_) (fun x hx => ?_)
    · rw [h2] at e; cases e; have := hNm.1; omega
    · cases ea
      obtain ⟨-, hcl⟩ := RdV_clo hNm.1 d _ _ _ h4
      have ha := hin9 m (by simp)
      have hra := (hcell m ha.1 ha.2).1
      rcases hra with hra | ⟨y, cy, ey, hky, hcy⟩
      · cases hv : (rc m).1 with
        | none => trivial
        | some w =>
          rw [hv] at hra
          rcases w with w | w | w
          · exact hra
          · exact hra
          · exact hra.elim
      · rw [ey] at hcl ⊢
        rcases hcl with hcl | ⟨y1, c1, e1, b1, b2⟩
        · exact hcl.elim
        · cases e1
          exact ⟨hky, fun hc => h9 y b1 b2 ((hC1 y (by omega) (by omega)).mp hc), by omega, hcy⟩
    · have := hin9 x hx
      refine (hC1 x this.1 this.2).mpr ?_
      simp at hx
      rcases hx with rfl | rfl
      · exact h6'
      · exact h7
theorem ev_all (hH : CoH N n φ rc K C1 sy nam S fs rn G0) : ∀ d, EvP N n φ rc K C1 sy nam S fs rn G0 d
  | 0 => fun df dp v lo hi p G VS sc post hdf hdp hCd hrv h5 h6 hG h8 hVS hSc k1 k0 => ev_atm hH hdf hdp hCd.1 hG h8 hVS hSc k1
  | d + 1 => ev_step hH (ev_all hH d)
theorem v_cut0 {M h : Nat} {g : St} {post : St → Prop} (hg : g 0 0 = nI h) (hh : h < 2 ^ 31) (k : ∀ g1, StkR g1 [] → post g1) : V_X8_cut M 0 g post := by
  unfold V_X8_cut
  refine ⟨fun c => absurd c (by decide), fun _ => ⟨fun c => ?_, fun c g3 e3 => ?_⟩⟩
  · rw [hg] at c
    have : h = 0 := by have := (nI_leI (a := h) (b := 0) hh (by decide)).mp c; omega
    subst this
    exact k g ⟨hg, fun i hi => absurd hi (Nat.not_lt_zero _)⟩
  · subst e3
    exact k _ ⟨rfl, fun i hi => absurd hi (Nat.not_lt_zero _)⟩
theorem c_compile {h p : Nat} {v : Va} {post : Int32 → SG → Prop} (hH : CoH N n φ rc K C1 sy nam S fs rn G0) (h8 : G0 8 0 0 = nI h) (hh : h ≤ 12) (h7 : G0 7 0 0 = nI p) (hp : p + 8 * (rn - fs) + 4 ≤ 1500) (hCd : CdE rc sy nam S 12 v fs rn) (hrv : rdv K v)
    (k1 : WFE rc nam 12 v → ∀ (G1 : SG) (q : Nat) (e0 : Nat → Nat), (∀ o, o ≠ 7 → o ≠ 8 → G1 o = G0 o) → G1 8 0 0 = 0 → G1 7 0 0 = nI (q + 1) → q ≤ p + 8 * (rn - fs) + 3 → (∀ a, a < p → G1 7 1 a = G0 7 1 a) → G1 7 1 q = 0 → (∀ ent1 : Nat → Nat, (∀ i, fs ≤ i → i < rn → ent1 i = e0 i) → AtE rc nam K C1 (G1 7 1) ent1 13 [] v p q) → post (nI p) G1)
    (k0 : ¬ WFE rc nam 12 v → ∀ G1 : SG, (∀ o, o ≠ 7 → o ≠ 8 → G1 o = G0 o) → G1 8 0 0 = 0 → G1 7 0 0 = nI p → (∀ a, a < p → G1 7 1 a = G0 7 1 a) → post (-1) G1) : V_X1_compile N n (cw φ v) G0 post := by
  unfold V_X1_compile
  rw [h7]
  refine eqI (v_cut0 h8 (by omega) (fun u hu => eqI ?_))
  have hG : CoG φ G0 [] p (uo G0 8 u) := ⟨fun o _ h8 => uoN h8, hu, by rw [uoN (by decide)]; exact h7⟩
  have c0 : (uo G0 8 u) 7 1 = G0 7 1 := by rw [uoN (by decide)]
  refine ev_all hH 12 14 0 v fs rn p _ [] [] _ (by decide) (by decide) hCd hrv (Nat.le_refl _) (Nat.le_refl _) hG (by omega) (by decide) trivial (fun hw => ?_) (fun hw => ?_)
  · intro G1 q e0 hG1 hp1 hq1 hs1 hA
    refine e_emit hG1 (by omega) (fun G2 hG2 c2 => ⟨fun c => absurd c (by decide), fun _ => ⟨fun _ => ?_, fun c => absurd ?_ c⟩⟩)
    · refine k1 hw G2 q e0 hG2.1 hG2.2.1.1 hG2.2.2 hq1 (fun a ha => ?_) ?_ (fun ent1 he => hA (G2 7 1) ent1 (fun a ha hb => ?_) he)
      · rw [c2, updI, if_neg (by omega), hs1 a ha, c0]
      · rw [c2, updE]
      · rw [c2, updI, if_neg (by omega)]
    · rw [hG2.2.2]
      exact nI_lt (b := 1536) (by omega) (by decide)
  · intro G1 q hG1 hp1 hq1 hs1
    refine e_emitA hG1 hq1 (fun G2 q2 hG2 hp2 hq2 hs2 => ⟨fun _ => eqI ?_, fun c => absurd rfl c⟩)
    refine k0 hw _ (fun o o7 o8 => by rw [uoN o7]; exact hG2.1 o o7 o8) ?_ rfl (fun a ha => ?_)
    · rw [uoN (by decide)]; exact hG2.2.1.1
    · show G2 7 1 a = _
      rw [hs2 a (by omega), hs1 a ha, c0]
end CH
