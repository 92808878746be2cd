-- ===== compiling in the class: each kind of list =====
section CF
variable {N n : Nat} {φ : Nat → Nat} {rc : Nat → Va × Va} {K : Nat → Nat → Prop} {C1 : Nat → Prop} {sy : Nat} {nam : Nat → List Nat} {S : Nat → Prop} {fs rn : Nat} {G0 G : SG} {VS : List Va} {p : Nat} {d df dp lo hi : Nat} {sc : List (List Nat)} {post : Int32 → SG → Prop}
theorem updI (f : Nat → Int32) (k : Nat) (x : Int32) (a : Nat) : upd f k x a = if a = k then x else f a := rfl
theorem c_app {op : Nat} {v : Va} {l : List Nat} (hE : EvP N n φ rc K C1 sy nam S fs rn G0 d) (hH : CoH N n φ rc K C1 sy nam S fs rn G0) (hdf : d + 2 ≤ df) (hdp : dp + d ≤ 12) (hVS : VS.length + d ≤ 12) (hSc : ScR rc K VS sc) (h3 : inF rc K fs rn v l) (h4 : Inc rc (CdE rc sy nam S d) l lo hi) (h5 : fs ≤ lo) (h6 : hi ≤ rn) (hG : CoG φ G0 VS p G) (h8 : p + 8 * (hi - lo) ≤ 1500)
    (k1 : (∀ x ∈ l, WFE rc nam d (rc x).1) → CoK φ G0 VS G (fun c1 ent1 q => ∃ p1, AtL rc (AtE rc nam K C1 c1 ent1 (d + 1) sc) l p p1 ∧ c1 p1 = 15 ∧ c1 (p1 + 1) = nI op ∧ c1 (p1 + 2) = nI l.length ∧ q = p1 + 3) lo hi p (p + 8 * (hi - lo) + 3) (post 1)) (k0 : ¬ (∀ x ∈ l, WFE rc nam d (rc x).1) → CoB φ G0 VS G p (post 0)) : V_X1_applying N n (fun a b G p => V_X1_evaluation N n df a b G p) (nI op) (cw φ v) (nI dp) G post := by
  unfold V_X1_applying
  refine c_evs hE hH hdf hdp hVS hSc h3 h4 h5 h6 hG (by omega) (fun hw => ?_) (fun hw => ?_)
  · intro G1 q1 e1 hG1 hp1 hq1 hs1 hA1
    refine e_emit2 hG1 (by omega) (fun G2 hG2 c2 => e_len hH hG2 h3 (e_emit hG2 (by omega) (fun G3 hG3 c3 => ⟨Or.inr rfl, ?_⟩)))
    have sm : ∀ a, a < q1 → G3 7 1 a = G1 7 1 a := fun a ha => by rw [c3, updI, if_neg (by omega), c2, updI, if_neg (by omega), updI, if_neg (by omega)]
    refine k1 hw G3 (q1 + 3) e1 hG3 (by omega) (by omega) (fun a ha => (sm a (by omega)).trans (hs1 a ha)) (fun c1 ent1 hc he => ⟨q1, hA1 c1 ent1 (fun a ha hb => (hc a ha (by omega)).trans (sm a hb)) he, ?_, ?_, ?_, rfl⟩)
    · rw [hc q1 hp1 (by omega), c3, updI, if_neg (by omega), c2, updI, if_neg (by omega), updE]
    · rw [hc (q1 + 1) (by omega) (by omega), c3, updI, if_neg (by omega), c2, updE]
    · rw [hc (q1 + 2) (by omega) (by omega), c3, updE]
  · intro G1 q1 hG1 hp1 hq1 hs1
    refine e_emit2A hG1 hq1 (fun G2 q2 hG2 hp2 hq2 hs2 => e_len hH hG2 h3 (e_emitA hG2 hq2 (fun G3 q3 hG3 hp3 hq3 hs3 => ⟨Or.inl rfl, ?_⟩)))
    exact k0 hw G3 q3 hG3 (by omega) hq3 (fun a ha => ((hs3 a (by omega)).trans (hs2 a (by omega))).trans (hs1 a ha))
theorem c_call {v : Va} {i : Nat} {l : List Nat} (hE : EvP N n φ rc K C1 sy nam S fs rn G0 d) (hH : CoH N n φ rc K C1 sy nam S fs rn G0) (hdf : d + 2 ≤ df) (hdp : dp + d ≤ 12) (hVS : VS.length + d ≤ 12) (hSc : ScR rc K VS sc) (h3 : inF rc K fs rn v (i :: l)) (h4 : Inc rc (CdE rc sy nam S d) (i :: l) lo hi) (h5 : fs ≤ lo) (h6 : hi ≤ rn) (hG : CoG φ G0 VS p G) (h8 : p + 8 * (hi - lo) ≤ 1500)
    (k1 : (∀ x ∈ i :: l, WFE rc nam d (rc x).1) → CoK φ G0 VS G (fun c1 ent1 q => ∃ p1, AtL rc (AtE rc nam K C1 c1 ent1 (d + 1) sc) (i :: l) p p1 ∧ c1 p1 = 16 ∧ c1 (p1 + 1) = nI l.length ∧ q = p1 + 2) lo hi p (p + 8 * (hi - lo) + 2) (post 1)) (k0 : ¬ (∀ x ∈ i :: l, WFE rc nam d (rc x).1) → CoB φ G0 VS G p (post 0)) : V_X1_calling N n (fun a b G p => V_X1_evaluation N n df a b G p) (cw φ v) (nI dp) G post := by
  unfold V_X1_calling
  have el : nI (i :: l).length - 1 = nI l.length := nI_pred _
  refine c_evs hE hH hdf hdp hVS hSc h3 h4 h5 h6 hG (by omega) (fun hw => ?_) (fun hw => ?_)
  · intro G1 q1 e1 hG1 hp1 hq1 hs1 hA1
    refine e_len hH hG1 h3 ?_
    rw [el]
    refine e_emit2 hG1 (by omega) (fun G2 hG2 c2 => ⟨Or.inr rfl, ?_⟩)
    have sm : ∀ a, a < q1 → G2 7 1 a = G1 7 1 a := fun a ha => by rw [c2, updI, if_neg (by omega), updI, if_neg (by omega)]
    refine k1 hw G2 (q1 + 2) e1 hG2 (by omega) (by omega) (fun a ha => (sm a (by omega)).trans (hs1 a ha)) (fun c1 ent1 hc he => ⟨q1, hA1 c1 ent1 (fun a ha hb => (hc a ha (by omega)).trans (sm a hb)) he, ?_, ?_, rfl⟩)
    · rw [hc q1 hp1 (by omega), c2, updI, if_neg (by omega), updE]
    · rw [hc (q1 + 1) (by omega) (by omega), c2, updE]
  · intro G1 q1 hG1 hp1 hq1 hs1
    refine e_len hH hG1 h3 (e_emit2A hG1 hq1 (fun G2 q2 hG2 hp2 hq2 hs2 => ⟨Or.inl rfl, ?_⟩))
    exact k0 hw G2 q2 hG2 (by omega) hq2 (fun a ha => (hs2 a (by omega)).trans (hs1 a ha))
theorem c_thr {v : Va} {l : List Nat} (hE : EvP N n φ rc K C1 sy nam S fs rn G0 d) (hH : CoH N n φ rc K C1 sy nam S fs rn G0) (hdf : d + 2 ≤ df) (hdp : dp + d ≤ 12) (hVS : VS.length + d ≤ 12) (hSc : ScR rc K VS sc) (h3 : inF rc K fs rn v l) (h4 : Inc rc (CdE rc sy nam S d) l lo hi) (h5 : fs ≤ lo) (h6 : hi ≤ rn) (hG : CoG φ G0 VS p G) (h8 : p + 8 * (hi - lo) ≤ 1500)
    (k1 : (∀ x ∈ l, WFE rc nam d (rc x).1) → CoK φ G0 VS G (fun c1 ent1 q => ∃ p1, AtL rc (AtE rc nam K C1 c1 ent1 (d + 1) sc) l p p1 ∧ c1 p1 = 14 ∧ q = p1 + 1) lo hi p (p + 8 * (hi - lo) + 1) (post 1)) (k0 : ¬ (∀ x ∈ l, WFE rc nam d (rc x).1) → CoB φ G0 VS G p (post 0)) : V_X1_throwing N n (fun a b G p => V_X1_evaluation N n df a b G p) (cw φ v) (nI dp) G post := by
  unfold V_X1_throwing
  refine c_evs hE hH hdf hdp hVS hSc h3 h4 h5 h6 hG (by omega) (fun hw => ?_) (fun hw => ?_)
  · intro G1 q1 e1 hG1 hp1 hq1 hs1 hA1
    refine e_emit hG1 (by omega) (fun G2 hG2 c2 => ⟨Or.inr rfl, ?_⟩)
    have sm : ∀ a, a < q1 → G2 7 1 a = G1 7 1 a := fun a ha => by rw [c2, updI, if_neg (by omega)]
    refine k1 hw G2 (q1 + 1) e1 hG2 (by omega) (by omega) (fun a ha => (sm a (by omega)).trans (hs1 a ha)) (fun c1 ent1 hc he => ⟨q1, hA1 c1 ent1 (fun a ha hb => (hc a ha (by omega)).trans (sm a hb)) he, ?_, rfl⟩)
    rw [hc q1 hp1 (by omega), c2, updE]
  · intro G1 q1 hG1 hp1 hq1 hs1
    refine e_emitA hG1 hq1 (fun G2 q2 hG2 hp2 hq2 hs2 => ⟨Or.inl rfl, ?_⟩)
    exact k0 hw G2 q2 hG2 (by omega) hq2 (fun a ha => (hs2 a (by omega)).trans (hs1 a ha))
theorem c_cho {v : Va} {a b : Nat} {e : List Nat} (hE : EvP N n φ rc K C1 sy nam S fs rn G0 d) (hH : CoH N n φ rc K C1 sy nam S fs rn G0) (hdf : d + 2 ≤ df) (hdp : dp + d ≤ 12) (hVS : VS.length + d ≤ 12) (hSc : ScR rc K VS sc) (h3 : inF rc K fs rn v (a :: b :: e)) (h4 : Inc rc (CdE rc sy nam S d) (a :: b :: e) lo hi) (h5 : fs ≤ lo) (h6 : hi ≤ rn) (hG : CoG φ G0 VS p G) (h8 : p + 8 * (hi - lo) ≤ 1500)
    (k1 : (∀ x ∈ a :: b :: e, WFE rc nam d (rc x).1) → CoK φ G0 VS G (fun c1 ent1 q => ∃ p1 p2, AtE rc nam K C1 c1 ent1 (d + 1) sc (rc a).1 p p1 ∧ c1 p1 = 9 ∧ c1 (p1 + 1) = nI (p2 + 2) ∧ AtE rc nam K C1 c1 ent1 (d + 1) sc (rc b).1 (p1 + 2) p2 ∧ c1 p2 = 8 ∧ c1 (p2 + 1) = nI q ∧ AtB rc c1 (AtE rc nam K C1 c1 ent1 (d + 1) sc) e (p2 + 2) q) lo hi p (p + 8 * (hi - lo)) (post 1)) (k0 : ¬ (∀ x ∈ a :: b :: e, WFE rc nam d (rc x).1) → CoB φ G0 VS G p (post 0)) : V_X1_choice N n (fun a b G p => V_X1_evaluation N n df a b G p) (cw φ v) (nI dp) G post := by
  obtain ⟨ca, rfl, hka, ha1, ha2⟩ := inF_hd h3
  have h3b := inF_tl hH h3
  obtain ⟨cb, eb, hkb, hb1, hb2⟩ := inF_hd h3b
  have h3e := inF_tl hH h3b
  obtain ⟨h4a, h4b, h4e⟩ := h4
  have la := CdE_le d _ _ _ h4a
  have lb := CdE_le d _ _ _ h4b
  have le := Inc_len (CdE_le d) e (b + 1) hi h4e
  unfold V_X1_choice
  refine e_car hH hG hka (hE df dp (rc a).1 lo a p G VS sc _ hdf hdp h4a (hH.2.2.2.2.2.2.2.1 a ha1 ha2).1 h5 (by omega) hG (by omega) hVS hSc (fun hwa => ?_) (fun hwa => ?_))
  · intro G1 q1 e1 hG1 hp1 hq1 hs1 hA1
    refine ⟨fun _ => e_leap hG1 (by omega) (fun G2 hG2 c2 => e_cdr hH hG2 hka ?_), fun c => absurd c (by decide)⟩
    rw [eb]
    refine e_car hH hG2 hkb (hE df dp (rc b).1 (a + 1) b (q1 + 2) G2 VS sc _ hdf hdp h4b (hH.2.2.2.2.2.2.2.1 b hb1 hb2).1 (by omega) (by omega) hG2 (by omega) hVS hSc (fun hwb => ?_) (fun hwb => ?_))
    · intro G3 q3 e3 hG3 hp3 hq3 hs3 hA3
      refine ⟨fun _ => e_leap hG3 (by omega) (fun G4 hG4 c4 => e_land hG4 (by omega) (fun G5 hG5 c5 => e_cdr hH hG5 hkb ?_)), fun c => absurd c (by decide)⟩
      refine c_bd hE hH hdf hdp hVS hSc h3e h4e (by omega) h6 hG5 (by omega) (fun hwe => ?_) (fun hwe => ?_)
      · intro G6 q6 e6 hG6 hp6 hq6 hs6 hA6
        refine e_land hG6 (by omega) (fun G7 hG7 c7 => ⟨Or.inr rfl, ?_⟩)
        have s1 : ∀ x, x < q1 → G7 7 1 x = G1 7 1 x := fun x hx => by rw [c7, updI, if_neg (by omega), hs6 x (by omega), c5, updI, if_neg (by omega), c4, updI, if_neg (by omega), updI, if_neg (by omega), hs3 x (by omega), c2, updI, if_neg (by omega), updI, if_neg (by omega)]
        refine k1 (fun x hx => ?_) G7 q6 (fun y => if y < a then e1 y else if y < b then e3 y else e6 y) hG7 (by omega) (by omega) (fun x hx => (s1 x (by omega)).trans (hs1 x hx)) (fun c1 ent1 hc he => ⟨q1, q3, hA1 c1 ent1 (fun x hx1 hx2 => (hc x hx1 (by omega)).trans (s1 x hx2)) (fun i i1 i2 => by rw [he i i1 (by omega)]; exact if_pos i2), ?_, ?_, hA3 c1 ent1 (fun x hx1 hx2 => ?_) (fun i i1 i2 => by rw [he i (by omega) (by omega)]; exact (if_neg (by omega)).trans (if_pos i2)), ?_, ?_, hA6 c1 ent1 (fun x hx1 hx2 => ?_) (fun i i1 i2 => by rw [he i (by omega) i2]; exact (if_neg (by omega)).trans (if_neg (by omega)))⟩)
        · rcases List.mem_cons.mp hx with e1 | e1
          · rw [e1]; exact hwa
          · rcases List.mem_cons.mp e1 with e1 | e1
            · rw [e1]; exact hwb
            · exact hwe x e1
        · rw [hc q1 (by omega) (by omega), c7, updI, if_neg (by omega), hs6 q1 (by omega), c5, updI, if_neg (by omega), c4, updI, if_neg (by omega), updI, if_neg (by omega), hs3 q1 (by omega), c2, updI, if_neg (by omega), updE]
        · rw [hc (q1 + 1) (by omega) (by omega), c7, updI, if_neg (by omega), hs6 (q1 + 1) (by omega), c5, updE]
        · rw [hc x (by omega) (by omega), c7, updI, if_neg (by omega), hs6 x (by omega), c5, updI, if_neg (by omega), c4, updI, if_neg (by omega), updI, if_neg (by omega)]
        · rw [hc q3 (by omega) (by omega), c7, updI, if_neg (by omega), hs6 q3 (by omega), c5, updI, if_neg (by omega), c4, updI, if_neg (by omega), updE]
        · rw [hc (q3 + 1) (by omega) (by omega), c7, updE]
        · rw [hc x (by omega) (by omega), c7, updI, if_neg (by omega)]
      · intro G6 q6 hG6 hp6 hq6 hs6
        refine e_land hG6 (by omega) (fun G7 hG7 c7 => ⟨Or.inl rfl, ?_⟩)
        exact k0 (fun h => hwe (fun x hx => h x (by simp [hx]))) G7 q6 hG7 (by omega) hq6 (fun x hx => by rw [c7, updI, if_neg (by omega), hs6 x (by omega), c5, updI, if_neg (by omega), c4, updI, if_neg (by omega), updI, if_neg (by omega), hs3 x (by omega), c2, updI, if_neg (by omega), updI, if_neg (by omega)]; exact hs1 x hx)
    · intro G3 q3 hG3 hp3 hq3 hs3
      refine ⟨fun c => absurd rfl c, fun _ => k0 (fun h => hwb (h b (by simp))) G3 q3 hG3 (by omega) hq3 (fun x hx => ?_)⟩
      rw [hs3 x (by omega), c2, updI, if_neg (by omega), updI, if_neg (by omega)]; exact hs1 x hx
  · intro G1 q1 hG1 hp1 hq1 hs1
    exact ⟨fun c => absurd rfl c, fun _ => k0 (fun h => hwa (h a (by simp))) G1 q1 hG1 hp1 hq1 hs1⟩
theorem c_lop {v : Va} {a : Nat} {b : List Nat} (hE : EvP N n φ rc K C1 sy nam S fs rn G0 d) (hH : CoH N n φ rc K C1 sy nam S fs rn G0) (hdf : d + 2 ≤ df) (hdp : dp + d ≤ 12) (hVS : VS.length + d ≤ 12) (hSc : ScR rc K VS sc) (h3 : inF rc K fs rn v (a :: b)) (h4 : Inc rc (CdE rc sy nam S d) (a :: b) lo hi) (h5 : fs ≤ lo) (h6 : hi ≤ rn) (hG : CoG φ G0 VS p G) (h8 : p + 8 * (hi - lo) ≤ 1500)
    (k1 : (∀ x ∈ a :: b, WFE rc nam d (rc x).1) → CoK φ G0 VS G (fun c1 ent1 q => ∃ p1 p2, AtE rc nam K C1 c1 ent1 (d + 1) sc (rc a).1 p p1 ∧ c1 p1 = 9 ∧ c1 (p1 + 1) = nI (p2 + 3) ∧ AtB rc c1 (AtE rc nam K C1 c1 ent1 (d + 1) sc) b (p1 + 2) p2 ∧ c1 p2 = 7 ∧ c1 (p2 + 1) = 8 ∧ c1 (p2 + 2) = nI p ∧ c1 (p2 + 3) = 2 ∧ c1 (p2 + 4) = 1 ∧ q = p2 + 5) lo hi p (p + 8 * (hi - lo) + 4) (post 1)) (k0 : ¬ (∀ x ∈ a :: b, WFE rc nam d (rc x).1) → CoB φ G0 VS G p (post 0)) : V_X1_loop N n (fun a b G p => V_X1_evaluation N n df a b G p) (cw φ v) (nI dp) G post := by
  obtain ⟨ca, rfl, hka, ha1, ha2⟩ := inF_hd h3
  have h3b := inF_tl hH h3
  obtain ⟨h4a, h4b⟩ := h4
  have la := CdE_le d _ _ _ h4a
  have lb := Inc_len (CdE_le d) b (a + 1) hi h4b
  unfold V_X1_loop
  rw [hG.2.2]
  refine eqI (e_car hH hG hka (hE df dp (rc a).1 lo a p G VS sc _ hdf hdp h4a (hH.2.2.2.2.2.2.2.1 a ha1 ha2).1 h5 (by omega) hG (by omega) hVS hSc (fun hwa => ?_) (fun hwa => ?_)))
  · intro G1 q1 e1 hG1 hp1 hq1 hs1 hA1
    refine ⟨fun _ => e_leap hG1 (by omega) (fun G2 hG2 c2 => e_cdr hH hG2 hka ?_), fun c => absurd c (by decide)⟩
    refine c_bd hE hH hdf hdp hVS hSc h3b h4b (by omega) h6 hG2 (by omega) (fun hwb => ?_) (fun hwb => ?_)
    · intro G3 q3 e3 hG3 hp3 hq3 hs3 hA3
      refine e_emit hG3 (by omega) (fun G4 hG4 c4 => e_emit2 hG4 (by omega) (fun G5 hG5 c5 => e_land hG5 (by omega) (fun G6 hG6 c6 => e_emit2 hG6 (by omega) (fun G7 hG7 c7 => ⟨Or.inr rfl, ?_⟩))))
      have s3 : ∀ x, x < q3 → x ≠ q1 + 1 → G7 7 1 x = G3 7 1 x := fun x hx hn => by rw [c7, updI, if_neg (by omega), updI, if_neg (by omega), c6, updI, if_neg (by omega), c5, updI, if_neg (by omega), updI, if_neg (by omega), c4, updI, if_neg (by omega)]
      have s1 : ∀ x, x < q1 → G7 7 1 x = G1 7 1 x := fun x hx => by rw [s3 x (by omega) (by omega), hs3 x (by omega), c2, updI, if_neg (by omega), updI, if_neg (by omega)]
      refine k1 (fun x hx => ?_) G7 (q3 + 5) (fun y => if y < a then e1 y else e3 y) hG7 (by omega) (by omega) (fun x hx => (s1 x (by omega)).trans (hs1 x hx)) (fun c1 ent1 hc he => ⟨q1, q3, hA1 c1 ent1 (fun x hx1 hx2 => (hc x hx1 (by omega)).trans (s1 x hx2)) (fun i i1 i2 => by rw [he i i1 (by omega)]; exact if_pos i2), ?_, ?_, hA3 c1 ent1 (fun x hx1 hx2 => (hc x (by omega) (by omega)).trans (s3 x hx2 (by omega))) (fun i i1 i2 => by rw [he i (by omega) i2]; exact if_neg (by omega)), ?_, ?_, ?_, ?_, ?_, rfl⟩)
      · rcases List.mem_cons.mp hx with e1 | e1
        · rw [e1]; exact hwa
        · exact hwb x e1
      · rw [hc q1 (by omega) (by omega), s3 q1 (by omega) (by omega), hs3 q1 (by omega), c2, updI, if_neg (by omega), updE]
      · rw [hc (q1 + 1) (by omega) (by omega), c7, updI, if_neg (by omega), updI, if_neg (by omega), c6, updE]
      · rw [hc q3 (by omega) (by omega), c7, updI, if_neg (by omega), updI, if_neg (by omega), c6, updI, if_neg (by omega), c5, updI, if_neg (by omega), updI, if_neg (by omega), c4, updE]
      · rw [hc (q3 + 1) (by omega) (by omega), c7, updI, if_neg (by omega), updI, if_neg (by omega), c6, updI, if_neg (by omega), c5, updI, if_neg (by omega), updE]
      · rw [hc (q3 + 2) (by omega) (by omega), c7, updI, if_neg (by omega), updI, if_neg (by omega), c6, updI, if_neg (by omega), c5, updE]
      · rw [hc (q3 + 3) (by omega) (by omega), c7, updI, if_neg (by omega), updE]
      · rw [hc (q3 + 4) (by omega) (by omega), c7, updE]
    · intro G3 q3 hG3 hp3 hq3 hs3
      refine e_emitA hG3 hq3 (fun G4 q4 hG4 hp4 hq4 hs4 => e_emit2A hG4 hq4 (fun G5 q5 hG5 hp5 hq5 hs5 => e_land hG5 (by omega) (fun G6 hG6 c6 => e_emit2A hG6 hq5 (fun G7 q7 hG7 hp7 hq7 hs7 => ⟨Or.inl rfl, ?_⟩))))
      exact k0 (fun h => hwb (fun x hx => h x (by simp [hx]))) G7 q7 hG7 (by omega) hq7 (fun x hx => by rw [hs7 x (by omega), c6, updI, if_neg (by omega), hs5 x (by omega), hs4 x (by omega), hs3 x (by omega), c2, updI, if_neg (by omega), updI, if_neg (by omega)]; exact hs1 x hx)
  · intro G1 q1 hG1 hp1 hq1 hs1
    exact ⟨fun c => absurd rfl c, fun _ => k0 (fun h => hwa (h a (by simp))) G1 q1 hG1 hp1 hq1 hs1⟩
theorem c_cat {v : Va} {a : Nat} {b : List Nat} (hE : EvP N n φ rc K C1 sy nam S fs rn G0 d) (hH : CoH N n φ rc K C1 sy nam S fs rn G0) (hdf : d + 2 ≤ df) (hdp : dp + d ≤ 12) (hVS : VS.length + d ≤ 12) (hSc : ScR rc K VS sc) (h3 : inF rc K fs rn v (a :: b)) (h4 : Inc rc (CdE rc sy nam S d) (a :: b) lo hi) (h5 : fs ≤ lo) (h6 : hi ≤ rn) (hG : CoG φ G0 VS p G) (h8 : p + 8 * (hi - lo) ≤ 1500)
    (k1 : (∀ x ∈ a :: b, WFE rc nam d (rc x).1) → CoK φ G0 VS G (fun c1 ent1 q => ∃ p1 p2, AtE rc nam K C1 c1 ent1 (d + 1) sc (rc a).1 p p1 ∧ c1 p1 = 12 ∧ c1 (p1 + 1) = nI q ∧ AtB rc c1 (AtE rc nam K C1 c1 ent1 (d + 1) sc) b (p1 + 2) p2 ∧ c1 p2 = 13 ∧ q = p2 + 1) lo hi p (p + 8 * (hi - lo)) (post 1)) (k0 : ¬ (∀ x ∈ a :: b, WFE rc nam d (rc x).1) → CoB φ G0 VS G p (post 0)) : V_X1_catching N n (fun a b G p => V_X1_evaluation N n df a b G p) (cw φ v) (nI dp) G post := by
  obtain ⟨ca, rfl, hka, ha1, ha2⟩ := inF_hd h3
  have h3b := inF_tl hH h3
  obtain ⟨h4a, h4b⟩ := h4
  have la := CdE_le d _ _ _ h4a
  have lb := Inc_len (CdE_le d) b (a + 1) hi h4b
  unfold V_X1_catching
  refine e_car hH hG hka (hE df dp (rc a).1 lo a p G VS sc _ hdf hdp h4a (hH.2.2.2.2.2.2.2.1 a ha1 ha2).1 h5 (by omega) hG (by omega) hVS hSc (fun hwa => ?_) (fun hwa => ?_))
  · intro G1 q1 e1 hG1 hp1 hq1 hs1 hA1
    refine ⟨fun _ => e_leap hG1 (by omega) (fun G2 hG2 c2 => e_cdr hH hG2 hka ?_), fun c => absurd c (by decide)⟩
    refine c_bd hE hH hdf hdp hVS hSc h3b h4b (by omega) h6 hG2 (by omega) (fun hwb => ?_) (fun hwb => ?_)
    · intro G3 q3 e3 hG3 hp3 hq3 hs3 hA3
      refine e_emit hG3 (by omega) (fun G4 hG4 c4 => e_land hG4 (by omega) (fun G6 hG6 c6 => ⟨Or.inr rfl, ?_⟩))
      have s3 : ∀ x, x < q3 → x ≠ q1 + 1 → G6 7 1 x = G3 7 1 x := fun x hx hn => by rw [c6, updI, if_neg (by omega), c4, updI, if_neg (by omega)]
      have s1 : ∀ x, x < q1 → G6 7 1 x = G1 7 1 x := fun x hx => by rw [s3 x (by omega) (by omega), hs3 x (by omega), c2, updI, if_neg (by omega), updI, if_neg (by omega)]
      refine k1 (fun x hx => ?_) G6 (q3 + 1) (fun y => if y < a then e1 y else e3 y) hG6 (by omega) (by omega) (fun x hx => (s1 x (by omega)).trans (hs1 x hx)) (fun c1 ent1 hc he => ⟨q1, q3, hA1 c1 ent1 (fun x hx1 hx2 => (hc x hx1 (by omega)).trans (s1 x hx2)) (fun i i1 i2 => by rw [he i i1 (by omega)]; exact if_pos i2), ?_, ?_, hA3 c1 ent1 (fun x hx1 hx2 => (hc x (by omega) (by omega)).trans (s3 x hx2 (by omega))) (fun i i1 i2 => by rw [he i (by omega) i2]; exact if_neg (by omega)), ?_, rfl⟩)
      · rcases List.mem_cons.mp hx with e1 | e1
        · rw [e1]; exact hwa
        · exact hwb x e1
      · rw [hc q1 (by omega) (by omega), s3 q1 (by omega) (by omega), hs3 q1 (by omega), c2, updI, if_neg (by omega), updE]
      · rw [hc (q1 + 1) (by omega) (by omega), c6, updE]
      · rw [hc q3 (by omega) (by omega), c6, updI, if_neg (by omega), c4, updE]
    · intro G3 q3 hG3 hp3 hq3 hs3
      refine e_emitA hG3 hq3 (fun G4 q4 hG4 hp4 hq4 hs4 => e_land hG4 (by omega) (fun G6 hG6 c6 => ⟨Or.inl rfl, ?_⟩))
      exact k0 (fun h => hwb (fun x hx => h x (by simp [hx]))) G6 q4 hG6 (by omega) hq4 (fun x hx => by rw [c6, updI, if_neg (by omega), hs4 x (by omega), hs3 x (by omega), c2, updI, if_neg (by omega), updI, if_neg (by omega)]; exact hs1 x hx)
  · intro G1 q1 hG1 hp1 hq1 hs1
    exact ⟨fun c => absurd rfl c, fun _ => k0 (fun h => hwa (h a (by simp))) G1 q1 hG1 hp1 hq1 hs1⟩
theorem e_emF {s : Nat} {x2 x3 : Int32} {post : SG → Prop} (hH : CoH N n φ rc K C1 sy nam S fs rn G0) (hG : CoG φ G0 VS p G) (hSc : ScR rc K VS sc) (hs : s < 40) (hV : VS.length ≤ 12) (hp : p + 1 < 1536) (ks : ∀ pl, loc sc s = some pl → ∀ G1 : SG, CoG φ G0 VS (p + 2) G1 → G1 7 1 = upd (upd (G 7 1) p x3) (p + 1) (nI pl) → post G1) (kn : loc sc s = none → ∀ G1 : SG, CoG φ G0 VS (p + 2) G1 → G1 7 1 = upd (upd (G 7 1) p x2) (p + 1) (nI s) → post G1) : V_X1_emitFor N n (cw φ (vsym s)) x2 x3 G post := by
  unfold V_X1_emitFor
  obtain ⟨hM, h1, h2, h3, -⟩ := hH
  refine eqI (c_emF (VS := VS) (by rw [hG.g2]; exact hM) h1 h2 hs hG.2.1 hV hG.2.2 hp VS sc n 0 (by omega) (by rw [List.drop_zero]) (Nat.zero_le _) hSc (fun pl e G1 a b c => ks pl e G1 ⟨fun o h7 h8 => (a o h7).trans (hG.1 o h7 h8), by rw [a 8 (by decide)]; exact hG.2.1, b⟩ ?_) (fun e G1 a b c => kn e G1 ⟨fun o h7 h8 => (a o h7).trans (hG.1 o h7 h8), by rw [a 8 (by decide)]; exact hG.2.1, b⟩ c))
  rw [c, show 4 * 0 + pl = pl by omega]
theorem c_set {v : Va} {a b : Nat} (hE : EvP N n φ rc K C1 sy nam S fs rn G0 d) (hH : CoH N n φ rc K C1 sy nam S fs rn G0) (hdf : d + 2 ≤ df) (hdp : dp + d ≤ 12) (hVS : VS.length + d ≤ 12) (hSc : ScR rc K VS sc) (h3 : inF rc K fs rn v [a, b]) (h4 : Inc rc (CdE rc sy nam S d) [a, b] lo hi) (h5 : fs ≤ lo) (h6 : hi ≤ rn) (hG : CoG φ G0 VS p G) (h8 : p + 8 * (hi - lo) ≤ 1500)
    (k1 : ∀ s, (rc a).1 = vsym s → s < 40 → WFE rc nam d (rc b).1 → CoK φ G0 VS G (fun c1 ent1 q => ∃ p1, AtE rc nam K C1 c1 ent1 (d + 1) sc (rc b).1 p p1 ∧ q = p1 + 2 ∧ (∀ pl, loc sc s = some pl → c1 p1 = 6 ∧ c1 (p1 + 1) = nI pl) ∧ (loc sc s = none → c1 p1 = 4 ∧ c1 (p1 + 1) = nI s)) lo hi p (p + 8 * (hi - lo)) (post 1)) (k0 : ¬ ((∃ s, (rc a).1 = vsym s) ∧ WFE rc nam d (rc b).1) → CoB φ G0 VS G p (post 0)) (hp : p ≤ 1536) : V_X1_setting N n (fun a b G p => V_X1_evaluation N n df a b G p) (cw φ v) (nI dp) G post := by
  obtain ⟨ca, rfl, hka, ha1, ha2⟩ := inF_hd h3
  have h3b := inF_tl hH h3
  obtain ⟨cb, eb, hkb, hb1, hb2⟩ := inF_hd h3b
  obtain ⟨h4a, h4b, h4e⟩ := h4
  have la := CdE_le d _ _ _ h4a
  have lb := CdE_le d _ _ _ h4b
  have le : b + 1 = hi := h4e
  have hca := (hH.2.2.2.2.2.2.2.1 a ha1 ha2).1
  unfold V_X1_setting
  refine e_car hH hG hka (rdv_tag hca ⟨fun c => ?_, fun c => e_cdr hH hG hka ?_⟩)
  · refine k0 (fun h => ?_) G p hG (Nat.le_refl _) hp (fun _ _ => rfl)
    obtain ⟨⟨s, e⟩, -⟩ := h
    rw [e] at c; exact c rfl
  · have hsy : ∃ s, (rc a).1 = vsym s ∧ s < 40 := by
      rcases hca with b2 | ⟨i, c2, b2, -⟩
      · cases hv : (rc a).1 with
        | none => rw [hv] at c; exact absurd c (by decide)
        | some w =>
          rcases w with w | w | w
          · rw [hv] at c; exact absurd c (show ¬ nI 2 = 3 by decide)
          · rw [hv] at b2; exact ⟨w, rfl, b2⟩
          · rw [hv] at b2; exact b2.elim
      · rw [b2] at c; exact absurd c (show ¬ nI 4 = 3 by decide)
    obtain ⟨s, es, hs⟩ := hsy
    rw [eb]
    refine e_car hH hG hkb (hE df dp (rc b).1 (a + 1) b p G VS sc _ hdf hdp h4b (hH.2.2.2.2.2.2.2.1 b hb1 hb2).1 (by omega) (by omega) hG (by omega) hVS hSc (fun hwb => ?_) (fun hwb => ?_))
    · intro G1 q1 e1 hG1 hp1 hq1 hs1 hA1
      refine ⟨fun _ => ?_, fun c => absurd c (by decide)⟩
      rw [es]
      have fin : ∀ (w x : Int32) (G2 : SG), CoG φ G0 VS (q1 + 2) G2 → G2 7 1 = upd (upd (G1 7 1) q1 w) (q1 + 1) x → ((∀ pl, loc sc s = some pl → w = 6 ∧ x = nI pl) ∧ (loc sc s = none → w = 4 ∧ x = nI s)) → post 1 G2 := by
        intro w x G2 hG2 c2 hwx
        have s1 : ∀ x, x < q1 → G2 7 1 x = G1 7 1 x := fun x hx => by rw [c2, updI, if_neg (by omega), updI, if_neg (by omega)]
        refine k1 s es hs hwb G2 (q1 + 2) e1 hG2 (by omega) (by omega) (fun x hx => (s1 x (by omega)).trans (hs1 x hx)) (fun c1 ent1 hc he => ?_)
        have d1 : c1 q1 = w := by rw [hc q1 (by omega) (by omega), c2, updI, if_neg (by omega), updE]
        have d2 : c1 (q1 + 1) = x := by rw [hc (q1 + 1) (by omega) (by omega), c2, updE]
        exact ⟨q1, hA1 c1 ent1 (fun x hx1 hx2 => (hc x hx1 (by omega)).trans (s1 x hx2)) (fun i i1 i2 => he i (by omega) (by omega)), rfl, fun pl hl => by rw [d1, d2]; exact hwx.1 pl hl, fun hl => by rw [d1, d2]; exact hwx.2 hl⟩
      refine e_emF hH hG1 hSc hs (by omega) (by omega) (fun pl hl G2 hG2 c2 => fin _ _ G2 hG2 c2 ⟨fun pl2 h2 => ?_, fun h2 => ?_⟩) (fun hl G2 hG2 c2 => fin _ _ G2 hG2 c2 ⟨fun pl2 h2 => ?_, fun _ => ⟨rfl, rfl⟩⟩)
      · rw [hl] at h2; cases h2; exact ⟨rfl, rfl⟩
      · rw [hl] at h2; cases h2
      · rw [hl] at h2; cases h2
    · intro G1 q1 hG1 hp1 hq1 hs1
      exact ⟨fun c => absurd rfl c, fun _ => k0 (fun h => hwb h.2) G1 q1 hG1 hp1 hq1 hs1⟩
theorem difS_ps : ∀ l : List Nat, difS rc l → ∃ ps : List Nat, l.map (fun i => (rc i).1) = ps.map vsym
  | [], _ => ⟨[], rfl⟩
  | x :: l, ⟨s, h1, _, h3⟩ => by
    obtain ⟨ps, e⟩ := difS_ps l h3
    exact ⟨s :: ps, by simp [h1, e]⟩
theorem c_clo {v : Va} {a : Nat} {b : List Nat} (hE : EvP N n φ rc K C1 sy nam S fs rn G0 d) (hH : CoH N n φ rc K C1 sy nam S fs rn G0) (hdf : d + 2 ≤ df) (hdp : dp + d ≤ 12) (hVS : VS.length + d + 1 ≤ 12) (hSc : ScR rc K VS sc) (h3 : inF rc K fs rn v (a :: b)) (h4b : Inc rc (CdE rc sy nam S d) b (a + 1) hi) (h5 : fs ≤ lo) (hla : lo ≤ a) (h6 : hi ≤ rn) (hG : CoG φ G0 VS p G) (h8 : p + 8 * (hi - lo) ≤ 1500)
    (hpv : (∃ sy, sy ≤ 40 ∧ atm sy (rc a).1 ∧ (rc a).1 ≠ vnil) ∨ ∃ l, inF rc K fs rn (rc a).1 l ∧ ∀ x ∈ l, C1 x)
    (k1 : ParOK rc (rc a).1 → (∀ x ∈ b, WFE rc nam d (rc x).1) → CoK φ G0 VS G (fun c1 ent1 q => ∃ ps p1, Par rc C1 (rc a).1 ps ∧ c1 p = 10 ∧ c1 (p + 1) = nI q ∧ ent1 a = p + 2 ∧ c1 (p + 2) = nI ps.length ∧ AtB rc c1 (AtE rc nam K C1 c1 ent1 (d + 1) (ps :: sc)) b (p + 3) p1 ∧ c1 p1 = 11 ∧ q = p1 + 1) lo hi p (p + 8 * (hi - lo)) (post 1)) (k0 : ¬ (ParOK rc (rc a).1 ∧ ∀ x ∈ b, WFE rc nam d (rc x).1) → CoB φ G0 VS G p (post 0)) : V_X1_closure N n (fun a b G p => V_X1_evaluation N n df a b G p) (cw φ v) (nI dp) G post := by
  obtain ⟨ca, rfl, hka, ha1, ha2⟩ := inF_hd h3
  have h3b := inF_tl hH h3
  have lb := Inc_len (CdE_le d) b (a + 1) hi h4b
  obtain ⟨hM, hN1, hN2, hn, hNm, hsy0, hops, hcell, hC1, hrn⟩ := id hH
  have hpv2 : (∃ sy, sy ≤ 40 ∧ atm sy (rc a).1 ∧ (rc a).1 ≠ vnil) ∨ ∃ l, Lst rc (rc a).1 l ∧ l.length < 900 ∧ kV K (rc a).1 ∧ ∀ x ∈ l, kV K (rc x).2 ∧ rdv K (rc x).1 := by
    rcases hpv with h | ⟨l, ⟨i1, i2, i3, i4⟩, -⟩
    · exact Or.inl h
    · exact Or.inr ⟨l, i1, i3, i2, fun x hx => ⟨(hcell x (i4 x hx).1 (i4 x hx).2).2, (hcell x (i4 x hx).1 (i4 x hx).2).1⟩⟩
  unfold V_X1_closure
  refine e_car hH hG hka (c_par (rc := rc) (K := K) (by rw [hG.g2]; exact hM) hN1 hN2 (by omega) hpv2 (fun hP => ?_) (fun hP => ?_))
  · refine ⟨fun _ => e_leap hG (by omega) (fun G2 hG2 c2 => ?_), fun c => absurd c (by decide)⟩
    obtain ⟨l, hL, hl4, hdif⟩ := id hP
    obtain ⟨l9, i9, hC9⟩ : ∃ l, inF rc K fs rn (rc a).1 l ∧ ∀ x ∈ l, C1 x := by
      rcases hpv with ⟨sy1, -, hat, hnn⟩ | h
      · exfalso
        cases l with
        | nil => exact hnn hL
        | cons x l => obtain ⟨⟨c, e⟩, -⟩ := hL; rw [e] at hat; exact hat.elim
      · exact h
    have el := Lst_uni l9 l _ i9.1 hL
    subst el
    clear hpv hpv2
    obtain ⟨ps, hps⟩ := difS_ps l9 hdif
    have hpl : ps.length = l9.length := by have := congrArg List.length hps; simpa using this.symm
    refine e_len hH hG2 i9 (e_emit hG2 (by omega) (fun G3 hG3 c3 => ?_))
    refine v_push (l := VS.map (cw φ)) hG3.2.1 (by rw [List.length_map]; omega) (by decide) (fun u hu => eqI ?_)
    have hG4 : CoG φ G0 ((rc a).1 :: VS) (p + 3) (uo G3 8 u) := by
      refine ⟨fun o h7 h8 => by rw [uoN h8]; exact hG3.1 o h7 h8, hu, ?_⟩
      rw [uoN (by decide)]; exact hG3.2.2
    have c4 : (uo G3 8 u) 7 1 = G3 7 1 := by rw [uoN (by decide)]
    refine e_cdr hH hG4 hka ?_
    have hSc2 : ScR rc K ((rc a).1 :: VS) (ps :: sc) := ⟨⟨l9, hL, hps, by omega, i9.2.1, fun x hx => ⟨(hcell x (i9.2.2.2 x hx).1 (i9.2.2.2 x hx).2).2, (hcell x (i9.2.2.2 x hx).1 (i9.2.2.2 x hx).2).1⟩⟩, hSc⟩
    refine c_bd hE hH hdf hdp (by show VS.length + 1 + d ≤ 12; omega) hSc2 h3b h4b (by omega) h6 hG4 (by omega) (fun hwb => ?_) (fun hwb => ?_)
    · intro G5 q5 e5 hG5 hp5 hq5 hs5 hA5
      refine v_pop (w := cw φ (rc a).1) (l := VS.map (cw φ)) hG5.2.1 (by rw [List.length_map]; omega) (by decide) (fun u2 hu2 => eqI ?_)
      have hG6 : CoG φ G0 VS q5 (uo G5 8 u2) := ⟨fun o h7 h8 => by rw [uoN h8]; exact hG5.1 o h7 h8, hu2, by rw [uoN (by decide)]; exact hG5.2.2⟩
      have c6 : (uo G5 8 u2) 7 1 = G5 7 1 := by rw [uoN (by decide)]
      refine e_emit hG6 (by omega) (fun G7 hG7 c7 => e_land hG7 (by omega) (fun G8 hG8 c8 => ⟨Or.inr rfl, ?_⟩))
      have s5 : ∀ x, x < q5 → x ≠ p + 1 → G8 7 1 x = G5 7 1 x := fun x hx hn => by rw [c8, updI, if_neg (by omega), c7, updI, if_neg (by omega), c6]
      have s3 : ∀ x, x < p + 3 → x ≠ p + 1 → G8 7 1 x = G3 7 1 x := fun x hx hn => by rw [s5 x (by omega) hn, hs5 x hx, c4]
      refine k1 hP hwb G8 (q5 + 1) (fun y => if y = a then p + 2 else e5 y) hG8 (by omega) (by omega) (fun x hx => ?_) (fun c1 ent1 hc he => ⟨ps, q5, ⟨l9, hL, hC9, hps, by omega⟩, ?_, ?_, ?_, ?_, hA5 c1 ent1 (fun x hx1 hx2 => (hc x (by omega) (by omega)).trans (s5 x hx2 (by omega))) (fun i i1 i2 => by rw [he i (by omega) i2]; exact if_neg (by omega)), ?_, rfl⟩)
      · rw [s3 x (by omega) (by omega), c3, updI, if_neg (by omega), c2, updI, if_neg (by omega), updI, if_neg (by omega)]
      · rw [hc p (by omega) (by omega), s3 p (by omega) (by omega), c3, updI, if_neg (by omega), c2, updI, if_neg (by omega), updE]
      · rw [hc (p + 1) (by omega) (by omega), c8, updE]
      · rw [he a hla (by omega)]; exact if_pos rfl
      · rw [hc (p + 2) (by omega) (by omega), s3 (p + 2) (by omega) (by omega), c3, updE, hpl]
      · rw [hc q5 (by omega) (by omega), c8, updI, if_neg (by omega), c7, updE]
    · intro G5 q5 hG5 hp5 hq5 hs5
      refine v_pop (w := cw φ (rc a).1) (l := VS.map (cw φ)) hG5.2.1 (by rw [List.length_map]; omega) (by decide) (fun u2 hu2 => eqI ?_)
      have hG6 : CoG φ G0 VS q5 (uo G5 8 u2) := ⟨fun o h7 h8 => by rw [uoN h8]; exact hG5.1 o h7 h8, hu2, by rw [uoN (by decide)]; exact hG5.2.2⟩
      have c6 : (uo G5 8 u2) 7 1 = G5 7 1 := by rw [uoN (by decide)]
      refine e_emitA hG6 hq5 (fun G7 q7 hG7 hp7 hq7 hs7 => e_land hG7 (by omega) (fun G8 hG8 c8 => ⟨Or.inl rfl, ?_⟩))
      exact k0 (fun h => hwb h.2) G8 q7 hG8 (by omega) hq7 (fun x hx => by rw [c8, updI, if_neg (by omega), hs7 x (by omega), c6, hs5 x (by omega), c4, c3, updI, if_neg (by omega), c2, updI, if_neg (by omega), updI, if_neg (by omega)])
  · clear hpv hpv2
    exact ⟨fun c => absurd rfl c, fun _ => k0 (fun h => hP h.1) G p hG (Nat.le_refl _) (by omega) (fun _ _ => rfl)⟩
end CF
