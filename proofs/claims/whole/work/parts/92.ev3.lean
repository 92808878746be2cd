-- ===== compiling in the class: a form =====
section CG
variable {N n : Nat} {φ : Nat → Nat} {rc : Nat → Va × Va} {K : Nat → Nat → Prop} {C1 : Nat → Prop} {sy : Nat} {nam : Nat → List Nat} {S : Nat → Prop} {fs rn : Nat} {G0 G : SG} {VS : List Va} {p : Nat} {d df dp lo hi : Nat} {sc : List (List Nat)} {post : Int32 → SG → Prop}
theorem rdv_cw {v : Va} {ψ : Nat → Nat} (h : rdv K v) : cw φ v = cw ψ v := by
  rcases h with h | ⟨i, c, rfl, -⟩
  · rcases v with _ | v | v | v | v | v | v
    · rfl
    · rfl
    · rfl
    · exact h.elim
    · exact h.elim
    · exact h.elim
    · exact h.elim
  · rfl
theorem CdE_lst {v : Va} (hH : CoH N n φ rc K C1 sy nam S fs rn G0) (h : CdE rc sy nam S d v lo hi) (hv : kV K v) (h5 : fs ≤ lo) (h6 : hi ≤ rn) : (∃ sy, sy ≤ 40 ∧ atm sy v ∧ v ≠ vnil) ∨ ∃ l, inF rc K fs rn v l ∧ ∀ x ∈ l, C1 x := by
  obtain ⟨hM, hN1, hN2, hn, hNm, hsy0, hops, hcell, hC1, hrn⟩ := hH
  have at0 : atm sy v → (∃ sy, sy ≤ 40 ∧ atm sy v ∧ v ≠ vnil) ∨ ∃ l, inF rc K fs rn v l ∧ ∀ x ∈ l, C1 x := fun ha => by
    by_cases e : v = vnil
    · exact Or.inr ⟨[], ⟨e, hv, by show 0 < 900; decide, fun x hx => (by cases hx)⟩, fun x hx => (by cases hx)⟩
    · exact Or.inl ⟨sy, hNm.2.1, ha, e⟩
  cases d with
  | zero => exact at0 h.1
  | succ d =>
    rcases h with h | ⟨i, l, h1, h2, h3, -⟩ | ⟨m, c, h1, h2, h3, h4, h5', h6', h7, -⟩
    · exact at0 h.1
    · have hin := (Inc_in (RdV_le d) _ lo hi h2).2
      have hl := Inc_len (RdV_le d) _ lo hi h2
      refine Or.inr ⟨i :: l, ⟨h1, hv, by omega, fun x hx => ?_⟩, fun x hx => ?_⟩
      · have := hin x hx; omega
      · have := hin x hx
        exact (hC1 x (by omega) (by omega)).mpr (h3 x hx)
    · have hle := RdV_le d _ _ _ h4
      refine Or.inr ⟨[m + 1, m], ⟨⟨⟨c, h1⟩, h3⟩, hv, by show 2 < 900; decide, fun x hx => ?_⟩, fun x hx => ?_⟩
      · simp at hx; omega
      · simp at hx
        rcases hx with rfl | rfl
        · exact (hC1 _ (by omega) (by omega)).mpr h6'
        · exact (hC1 _ (by omega) (by omega)).mpr h7
theorem smap9 : ∀ op : Fin 32, 9 ≤ op.1 → (¬ SMAP.getD op.1 0 = 1 ∧ ¬ SMAP.getD op.1 0 = 2 ∧ ¬ SMAP.getD op.1 0 = 3 ∧ ¬ SMAP.getD op.1 0 = 4 ∧ ¬ SMAP.getD op.1 0 = 5 ∧ ¬ SMAP.getD op.1 0 = 6 ∧ ¬ SMAP.getD op.1 0 = 7 ∧ ¬ SMAP.getD op.1 0 = 8 ∧ ¬ SMAP.getD op.1 0 = 9) ∧ MOSTL.getD op.1 0 ≤ 4 := by decide +kernel
theorem v_x3at {op : Nat} {post : Nat → Prop} (h : op < 32) (k : post op) : V_X3_at (nI op) post := by
  unfold V_X3_at
  refine ⟨fun c => absurd c (nI_pos (by omega)), fun _ => ⟨fun c => absurd c (nI_ge (b := 32) h (by decide)), fun _ => ⟨vp_in_nI h (by decide), ?_⟩⟩⟩
  rw [nI_clamp (by omega)]; exact k
set_option maxHeartbeats 2000000 in
theorem c_l42 {op i c p0 : Nat} {l : List Nat} (hE : EvP N n φ rc K C1 sy nam S fs rn G0 d) (hH : CoH N n φ rc K C1 sy nam S fs rn G0) (hop : op < 32) (hopv : opV nam (rc i).1 = op) (hdf : d + 2 ≤ df) (hdp : dp + 1 + d ≤ 12) (hVS : VS.length + d + 1 ≤ 12) (hSc : ScR rc K VS sc) (h3 : inF rc K fs rn (vrd i c) (i :: l)) (hll : lo + (l.length + 1) ≤ hi) (h4 : op ≠ 1 → Inc rc (CdE rc sy nam S d) (i :: l) lo hi) (hq : op = 1 → ∀ a, l = [a] → VV K C1 (fun _ => none) (rc a).1) (h5 : fs ≤ lo) (h6 : hi ≤ rn) (hG : CoG φ G0 VS (p0 + 1) G) (h8 : p0 + 8 * (hi - lo) + 3 ≤ 1500)
    (hwf : WFE rc nam (d + 1) (vrd i c) ↔ (arOK op l.length ∧ wfC rc l op ∧ ∀ x ∈ wfP i l op, WFE rc nam d (rc x).1))
    (k1 : WFE rc nam (d + 1) (vrd i c) → CoK φ G0 VS G (fun c1 ent1 q => AtO rc K C1 c1 ent1 (AtE rc nam K C1 c1 ent1 (d + 1)) sc i l p0 q op) lo hi (p0 + 1) (p0 + 8 * (hi - lo) + 3) (post 1)) (k0 : ¬ WFE rc nam (d + 1) (vrd i c) → CoB φ G0 VS G (p0 + 1) (post 0)) : V_X1_list_42 N (fun a b G p => V_X1_evaluation N n df a b G p) post n (cw φ (vrd i c)) (nI dp) (cw φ (rc i).2) (nI op) G := by
  have h3l := inF_tl hH h3
  have bad : ¬ arOK op l.length → post 0 G := fun h => k0 (fun h9 => h (hwf.mp h9).1) G (p0 + 1) hG (Nat.le_refl _) (by omega) (fun _ _ => rfl)
  unfold V_X1_list_42
  refine v_x3at hop (e_len hH hG h3l ?_)
  refine ⟨hop, fun c => bad (fun h => absurd h.1 (Int32.not_le.mpr c)), fun c2 => ⟨hop, fun c5 => ⟨hop, vp_in_nI hop (by decide), ?_⟩, fun c5 => bad (fun h => c5 h.2)⟩⟩
  have har : arOK op l.length := ⟨Int32.not_lt.mp c2, c5⟩
  have hl9 : l.length < 1000 := by have := h3l.2.2.1; omega
  rw [nI_clamp (by omega), nI_1]
  refine eqI ?_
  have inc : op ≠ 1 → lo ≤ i ∧ Inc rc (CdE rc sy nam S d) l (i + 1) hi := fun h => ⟨CdE_le d _ _ _ (h4 h).1, (h4 h).2⟩
  have hcs : op = 0 ∨ op = 1 ∨ op = 2 ∨ op = 3 ∨ op = 4 ∨ op = 5 ∨ op = 6 ∨ op = 7 ∨ op = 8 ∨ 9 ≤ op := by omega
  have noC : op ≠ 4 → op ≠ 6 → wfC rc l op := fun a b => ⟨fun c => absurd c a, fun c => absurd c b⟩
  rcases hcs with rfl | rfl | rfl | rfl | rfl | rfl | rfl | rfl | rfl | hge
  · have hl4 : l.length ≤ 4 := ((ar_iff (a := 0) (b := 4) hl9 (by decide) (by decide)).mp har).2
    refine ⟨fun c => absurd c (by decide), fun c => absurd c (by decide), fun c => absurd c (by decide), fun c => absurd c (by decide), fun c => absurd c (by decide), fun c => absurd c (by decide), fun c => absurd c (by decide), fun c => absurd c (by decide), fun _ => ?_, fun c1 c2 c3 c4 c5 c6 c7 c8 c9 => absurd rfl c9⟩
    refine c_call hE hH hdf hdp (by omega) hSc h3 (h4 (by decide)) h5 h6 hG (by omega) (fun hw => ?_) (fun hw => ?_)
    · intro G1 q e0 hG1 hp1 hq1 hs1 hA
      refine ⟨Or.inr rfl, k1 (hwf.mpr ⟨har, noC (by decide) (by decide), hw⟩) G1 q e0 hG1 hp1 (by omega) hs1 (fun c1 ent1 hc he => ?_)⟩
      obtain ⟨p1, a1, a2, a3, a4⟩ := hA c1 ent1 hc he
      exact ⟨p1, hl4, a1, a2, a3, a4⟩
    · intro G1 q hG1 hp1 hq1 hs1
      exact ⟨Or.inl rfl, k0 (fun h => hw (hwf.mp h).2.2) G1 q hG1 hp1 hq1 hs1⟩
  · have hl1 : l.length = 1 := by have := (ar_iff (a := 1) (b := 1) hl9 (by decide) (by decide)).mp har; omega
    obtain ⟨a, rfl⟩ := List.length_eq_one_iff.mp hl1
    obtain ⟨ca, ea, hka, ha1, ha2⟩ := inF_hd h3l
    refine ⟨fun _ => ?_, fun c => absurd c (by decide), fun c => absurd c (by decide), fun c => absurd c (by decide), fun c => absurd c (by decide), fun c => absurd c (by decide), fun c => absurd c (by decide), fun c => absurd c (by decide), fun c => absurd c (by decide), fun c1 c2 c3 c4 c5 c6 c7 c8 c9 => absurd rfl c1⟩
    rw [ea]
    refine e_car hH hG hka (e_emit2 hG (by omega) (fun G1 hG1 c1 => ?_))
    refine k1 (hwf.mpr ⟨har, noC (by decide) (by decide), fun x hx => (by cases hx)⟩) G1 (p0 + 3) (fun _ => 0) hG1 (by omega) (by omega) (fun x hx => ?_) (fun c2 ent1 hc he => ⟨a, rfl, ?_, ?_, rfl, hq rfl a rfl⟩)
    · rw [c1, updI, if_neg (by omega), updI, if_neg (by omega)]
    · rw [hc (p0 + 1) (by omega) (by omega), c1, updI, if_neg (by omega), updE]
    · rw [hc (p0 + 2) (by omega) (by omega), c1, show p0 + 1 + 1 = p0 + 2 from rfl, updE]
      exact rdv_cw (hH.2.2.2.2.2.2.2.1 a ha1 ha2).1
  · have hl2 := (ar_iff (a := 2) (b := 3) hl9 (by decide) (by decide)).mp har
    obtain ⟨a, b, e, rfl⟩ : ∃ a b e, l = a :: b :: e := by
      match l, hl2 with
      | a :: b :: e, _ => exact ⟨a, b, e, rfl⟩
      | [], h => exact absurd h.1 (by decide)
      | [a], h => exact absurd h.1 (show ¬ 2 ≤ 1 by decide)
    have hl2 : 2 ≤ e.length + 2 ∧ e.length + 2 ≤ 3 := hl2
    obtain ⟨hli, hin⟩ := inc (by decide)
    refine ⟨fun c => absurd c (by decide), fun _ => ?_, fun c => absurd c (by decide), fun c => absurd c (by decide), fun c => absurd c (by decide), fun c => absurd c (by decide), fun c => absurd c (by decide), fun c => absurd c (by decide), fun c => absurd c (by decide), fun c1 c2 c3 c4 c5 c6 c7 c8 c9 => absurd rfl c2⟩
    refine c_cho hE hH hdf hdp (by omega) hSc h3l hin (by omega) h6 hG (by omega) (fun hw => ?_) (fun hw => ?_)
    · intro G1 q e0 hG1 hp1 hq1 hs1 hA
      refine ⟨Or.inr rfl, k1 (hwf.mpr ⟨har, noC (by decide) (by decide), hw⟩) G1 q e0 hG1 hp1 (by omega) hs1 (fun c1 ent1 hc he => ?_)⟩
      obtain ⟨p1, p2, a1, a2, a3, a4, a5, a6, a7⟩ := hA c1 ent1 hc (fun x hx1 hx2 => he x (by omega) hx2)
      exact ⟨a, b, e, p1, p2, rfl, by omega, a1, a2, a3, a4, a5, a6, a7⟩
    · intro G1 q hG1 hp1 hq1 hs1
      exact ⟨Or.inl rfl, k0 (fun h => hw (hwf.mp h).2.2) G1 q hG1 hp1 hq1 hs1⟩
  · obtain ⟨hli, hin⟩ := inc (by decide)
    refine ⟨fun c => absurd c (by decide), fun c => absurd c (by decide), fun _ => ?_, fun c => absurd c (by decide), fun c => absurd c (by decide), fun c => absurd c (by decide), fun c => absurd c (by decide), fun c => absurd c (by decide), fun c => absurd c (by decide), fun c1 c2 c3 c4 c5 c6 c7 c8 c9 => absurd rfl c3⟩
    refine c_bd hE hH hdf hdp (by omega) hSc h3l hin (by omega) h6 hG (by omega) (fun hw => ?_) (fun hw => ?_)
    · intro G1 q e0 hG1 hp1 hq1 hs1 hA
      exact ⟨Or.inr rfl, k1 (hwf.mpr ⟨har, noC (by decide) (by decide), hw⟩) G1 q e0 hG1 hp1 (by omega) hs1 (fun c1 ent1 hc he => hA c1 ent1 hc (fun x hx1 hx2 => he x (by omega) hx2))⟩
    · intro G1 q hG1 hp1 hq1 hs1
      exact ⟨Or.inl rfl, k0 (fun h => hw (hwf.mp h).2.2) G1 q hG1 hp1 hq1 hs1⟩
  · have hl2 := (ar_iff (a := 2) (b := 2) hl9 (by decide) (by decide)).mp har
    obtain ⟨a, b, rfl⟩ : ∃ a b, l = [a, b] := by
      match l, hl2 with
      | [a, b], _ => exact ⟨a, b, rfl⟩
      | [], h => exact absurd h.1 (by decide)
      | [a], h => exact absurd h.1 (show ¬ 2 ≤ 1 by decide)
      | a :: b :: e :: r, h =>
        have h2 : r.length + 3 ≤ 2 := h.2
        exact absurd h2 (by omega)
    obtain ⟨hli, hin⟩ := inc (by decide)
    refine ⟨fun c => absurd c (by decide), fun c => absurd c (by decide), fun c => absurd c (by decide), fun _ => ?_, fun c => absurd c (by decide), fun c => absurd c (by decide), fun c => absurd c (by decide), fun c => absurd c (by decide), fun c => absurd c (by decide), fun c1 c2 c3 c4 c5 c6 c7 c8 c9 => absurd rfl c4⟩
    refine c_set hE hH hdf hdp (by omega) hSc h3l hin (by omega) h6 hG (by omega) (fun s es hs hw => ?_) (fun hw => ?_) (by omega)
    · intro G1 q e0 hG1 hp1 hq1 hs1 hA
      refine ⟨Or.inr rfl, k1 (hwf.mpr ⟨har, ⟨fun _ => ⟨a, [b], s, rfl, es⟩, fun c => (by cases c)⟩, fun x hx => ?_⟩) G1 q e0 hG1 hp1 (by omega) hs1 (fun c1 ent1 hc he => ?_)⟩
      · have hx : x ∈ [b] := hx
        rw [List.mem_singleton] at hx; rw [hx]; exact hw
      · obtain ⟨p1, a1, a2, a3, a4⟩ := hA c1 ent1 hc (fun x hx1 hx2 => he x (by omega) hx2)
        exact ⟨a, b, s, p1, rfl, es, hs, a1, a2, a3, a4⟩
    · intro G1 q hG1 hp1 hq1 hs1
      refine ⟨Or.inl rfl, k0 (fun h => hw ?_) G1 q hG1 hp1 hq1 hs1⟩
      obtain ⟨-, hc, hx⟩ := hwf.mp h
      obtain ⟨a1, b1, s, e1, e2⟩ := hc.1 rfl
      cases e1
      exact ⟨⟨s, e2⟩, hx b (by show b ∈ [b]; simp)⟩
  · have hl2 := (ar_iff (a := 1) (b := 1000000) hl9 (by decide) (by decide)).mp har
    obtain ⟨a, b, rfl⟩ : ∃ a b, l = a :: b := by
      match l, hl2 with
      | a :: b, _ => exact ⟨a, b, rfl⟩
      | [], h => exact absurd h.1 (by decide)
    obtain ⟨hli, hin⟩ := inc (by decide)
    refine ⟨fun c => absurd c (by decide), fun c => absurd c (by decide), fun c => absurd c (by decide), fun c => absurd c (by decide), fun _ => ?_, fun c => absurd c (by decide), fun c => absurd c (by decide), fun c => absurd c (by decide), fun c => absurd c (by decide), fun c1 c2 c3 c4 c5 c6 c7 c8 c9 => absurd rfl c5⟩
    refine c_lop hE hH hdf hdp (by omega) hSc h3l hin (by omega) h6 hG (by omega) (fun hw => ?_) (fun hw => ?_)
    · intro G1 q e0 hG1 hp1 hq1 hs1 hA
      refine ⟨Or.inr rfl, k1 (hwf.mpr ⟨har, noC (by decide) (by decide), hw⟩) G1 q e0 hG1 hp1 (by omega) hs1 (fun c1 ent1 hc he => ?_)⟩
      obtain ⟨p1, p2, a1, a2, a3, a4, a5, a6, a7, a8, a9, a10⟩ := hA c1 ent1 hc (fun x hx1 hx2 => he x (by omega) hx2)
      exact ⟨a, b, p1, p2, rfl, a1, a2, a3, a4, a5, a6, a7, a8, a9, a10⟩
    · intro G1 q hG1 hp1 hq1 hs1
      exact ⟨Or.inl rfl, k0 (fun h => hw (hwf.mp h).2.2) G1 q hG1 hp1 hq1 hs1⟩
  · have hl2 := (ar_iff (a := 1) (b := 1000000) hl9 (by decide) (by decide)).mp har
    obtain ⟨a, b, rfl⟩ : ∃ a b, l = a :: b := by
      match l, hl2 with
      | a :: b, _ => exact ⟨a, b, rfl⟩
      | [], h => exact absurd h.1 (by decide)
    obtain ⟨hli, hin⟩ := inc (by decide)
    obtain ⟨ca, ea, hka, ha1, ha2⟩ := inF_hd h3l
    have la := CdE_le d _ _ _ hin.1
    refine ⟨fun c => absurd c (by decide), fun c => absurd c (by decide), fun c => absurd c (by decide), fun c => absurd c (by decide), fun c => absurd c (by decide), fun _ => ?_, fun c => absurd c (by decide), fun c => absurd c (by decide), fun c => absurd c (by decide), fun c1 c2 c3 c4 c5 c6 c7 c8 c9 => absurd rfl c6⟩
    refine c_clo (lo := i + 1) hE hH hdf hdp hVS hSc h3l hin.2 (by omega) la h6 hG (by omega) (CdE_lst hH hin.1 (rdv_kV (hH.2.2.2.2.2.2.2.1 a ha1 ha2).1) (by omega) (by omega)) (fun hP hw => ?_) (fun hw => ?_)
    · intro G1 q e0 hG1 hp1 hq1 hs1 hA
      refine ⟨Or.inr rfl, k1 (hwf.mpr ⟨har, ⟨fun c => (by cases c), fun _ => ⟨a, b, rfl, hP⟩⟩, hw⟩) G1 q e0 hG1 hp1 (by omega) hs1 (fun c1 ent1 hc he => ?_)⟩
      obtain ⟨ps, p1, a1, a2, a3, a4, a5, a6, a7, a8⟩ := hA c1 ent1 hc (fun x hx1 hx2 => he x (by omega) hx2)
      exact ⟨a, b, ps, p1, rfl, a1, a2, a3, a4, a5, a6, a7, a8⟩
    · intro G1 q hG1 hp1 hq1 hs1
      refine ⟨Or.inl rfl, k0 (fun h => hw ?_) G1 q hG1 hp1 hq1 hs1⟩
      obtain ⟨-, hc, hx⟩ := hwf.mp h
      obtain ⟨a1, b1, e1, e2⟩ := hc.2 rfl
      cases e1
      exact ⟨e2, hx⟩
  · have hl2 := (ar_iff (a := 1) (b := 1000000) hl9 (by decide) (by decide)).mp har
    obtain ⟨a, b, rfl⟩ : ∃ a b, l = a :: b := by
      match l, hl2 with
      | a :: b, _ => exact ⟨a, b, rfl⟩
      | [], h => exact absurd h.1 (by decide)
    obtain ⟨hli, hin⟩ := inc (by decide)
    refine ⟨fun c => absurd c (by decide), fun c => absurd c (by decide), fun c => absurd c (by decide), fun c => absurd c (by decide), fun c => absurd c (by decide), fun c => absurd c (by decide), fun _ => ?_, fun c => absurd c (by decide), fun c => absurd c (by decide), fun c1 c2 c3 c4 c5 c6 c7 c8 c9 => absurd rfl c7⟩
    refine c_cat hE hH hdf hdp (by omega) hSc h3l hin (by omega) h6 hG (by omega) (fun hw => ?_) (fun hw => ?_)
    · intro G1 q e0 hG1 hp1 hq1 hs1 hA
      refine ⟨Or.inr rfl, k1 (hwf.mpr ⟨har, noC (by decide) (by decide), hw⟩) G1 q e0 hG1 hp1 (by omega) hs1 (fun c1 ent1 hc he => ?_)⟩
      obtain ⟨p1, p2, a1, a2, a3, a4, a5, a6⟩ := hA c1 ent1 hc (fun x hx1 hx2 => he x (by omega) hx2)
      exact ⟨a, b, p1, p2, rfl, a1, a2, a3, a4, a5, a6⟩
    · intro G1 q hG1 hp1 hq1 hs1
      exact ⟨Or.inl rfl, k0 (fun h => hw (hwf.mp h).2.2) G1 q hG1 hp1 hq1 hs1⟩
  · have hl2 := (ar_iff (a := 2) (b := 2) hl9 (by decide) (by decide)).mp har
    obtain ⟨hli, hin⟩ := inc (by decide)
    refine ⟨fun c => absurd c (by decide), fun c => absurd c (by decide), fun c => absurd c (by decide), fun c => absurd c (by decide), fun c => absurd c (by decide), fun c => absurd c (by decide), fun c => absurd c (by decide), fun _ => ?_, fun c => absurd c (by decide), fun c1 c2 c3 c4 c5 c6 c7 c8 c9 => absurd rfl c8⟩
    refine c_thr hE hH hdf hdp (by omega) hSc h3l hin (by omega) h6 hG (by omega) (fun hw => ?_) (fun hw => ?_)
    · intro G1 q e0 hG1 hp1 hq1 hs1 hA
      refine ⟨Or.inr rfl, k1 (hwf.mpr ⟨har, noC (by decide) (by decide), hw⟩) G1 q e0 hG1 hp1 (by omega) hs1 (fun c1 ent1 hc he => ?_)⟩
      obtain ⟨p1, a1, a2, a3⟩ := hA c1 ent1 hc (fun x hx1 hx2 => he x (by omega) hx2)
      exact ⟨p1, by omega, a1, a2, a3⟩
    · intro G1 q hG1 hp1 hq1 hs1
      exact ⟨Or.inl rfl, k0 (fun h => hw (hwf.mp h).2.2) G1 q hG1 hp1 hq1 hs1⟩
  · obtain ⟨⟨s1, s2, s3, s4, s5, s6, s7, s8, s9⟩, hm4⟩ := smap9 ⟨op, hop⟩ hge
    obtain ⟨hli, hin⟩ := inc (by omega)
    have hl4 : l.length ≤ 4 := by
      have h9 := Int32.le_trans har.2 hm4
      exact (nI_leI (b := 4) (by omega) (by decide)).mp h9
    have eP : wfP i l op = l := by unfold wfP; split <;> first | rfl | omega
    refine ⟨fun c => absurd c s1, fun c => absurd c s2, fun c => absurd c s3, fun c => absurd c s4, fun c => absurd c s5, fun c => absurd c s6, fun c => absurd c s7, fun c => absurd c s8, fun c => absurd c s9, fun _ _ _ _ _ _ _ _ _ => ?_⟩
    refine c_app hE hH hdf hdp (by omega) hSc h3l hin (by omega) h6 hG (by omega) (fun hw => ?_) (fun hw => ?_)
    · intro G1 q e0 hG1 hp1 hq1 hs1 hA
      refine ⟨Or.inr rfl, k1 (hwf.mpr ⟨har, noC (by omega) (by omega), by rw [eP]; exact hw⟩) G1 q e0 hG1 hp1 (by omega) hs1 (fun c1 ent1 hc he => ?_)⟩
      obtain ⟨p1, a1, a2, a3, a4, a5⟩ := hA c1 ent1 hc (fun x hx1 hx2 => he x (by omega) hx2)
      obtain ⟨o, rfl⟩ : ∃ o, op = o + 9 := ⟨op - 9, by omega⟩
      exact ⟨p1, har.1, har.2, hl4, a1, a2, a3, a4, a5⟩
    · intro G1 q hG1 hp1 hq1 hs1
      refine ⟨Or.inl rfl, k0 (fun h => hw ?_) G1 q hG1 hp1 hq1 hs1⟩
      have := (hwf.mp h).2.2
      rw [eP] at this; exact this
end CG
