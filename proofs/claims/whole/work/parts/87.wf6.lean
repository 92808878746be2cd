section WFT
variable {g0 : St} {k : StL} {rc : Nat → Va × Va} {rn : Nat}
def wfC (rc : Nat → Va × Va) (l : List Nat) (op : Nat) : Prop := (op = 4 → ∃ a b s, l = a :: b ∧ (rc a).1 = vsym s) ∧ (op = 6 → ∃ a b, l = a :: b ∧ ParOK rc (rc a).1)
theorem r_wf94 {K9 : Int32 → St → StL → Prop} {post : Int32 → St → StL → Prop} {i c n op : Nat} {l : List Nat} {pd : List Va} {g : St} (hR : RdM g0 rc rn) (hrn : rn ≤ 1100) (hi : i < rn) (hc : c < 1024) (hl : lbR rc rn (rc i).2 l) (hop : op < 32) (hn : l.length + 4000 < n) (h2 : pd.length + l.length + 1 ≤ 1100) (hP : PdR g0 g pd) (h46 : op = 4 ∨ op = 6 → l ≠ [])
    (hpar : op = 6 → ∀ a b, l = a :: b → (∃ sy, atm sy (rc a).1 ∧ (rc a).1 ≠ vnil) ∨ ∃ l1, lbR rc rn (rc a).1 l1 ∧ l1.length < 1100)
    (k0 : ¬ wfC rc l op → post 0 g k) (kk : wfC rc l op → ∀ g1, PdR g0 g1 (((wfP i l op).map (fun x => (rc x).1)).reverse ++ pd) → K9 (nI (pd.length + (wfP i l op).length)) g1 k) : V_X12_wellFormed_94 K9 post n (nI pd.length) (enc (vrd i c)) (nI (opR op)) g k := by
  have hRg := PdR_rd hP hR
  have hor : opR op < 32 := by unfold opR; split <;> omega
  have r3 : opR op = 3 ↔ op = 4 := by unfold opR; split <;> omega
  have r5 : opR op = 5 ↔ op = 6 := by unfold opR; split <;> omega
  have m140 : wfC rc l op → V_X12_wellFormed_140 K9 post n (nI pd.length) (enc (vrd i c)) (nI (opR op)) g k := fun h => r_wf140 hR hrn hi hc hl hop (by omega) h2 hP h46 (kk h)
  unfold V_X12_wellFormed_94
  refine ⟨fun c3 => ?_, fun c3 => ?_⟩
  · have h4 : op ≠ 4 := fun e => c3 (by rw [r3.mpr e]; rfl)
    unfold V_X12_wellFormed_116
    refine ⟨fun c5 => m140 ⟨fun e => absurd e h4, fun e => absurd (by rw [r5.mpr e]; rfl) c5⟩, fun c5 => ?_⟩
    have h6 : op = 6 := r5.mp ((nI_eq (b := 5) (by omega) (by decide)).mp c5)
    cases l with
    | nil => exact absurd rfl (h46 (Or.inr h6))
    | cons a b =>
      obtain ⟨d, e, hd, ha, htl⟩ := lbR_cons hR hl
      refine r_cdr1 hRg hi hrn hc ?_
      rw [e]
      refine r_car1 hRg ha hrn hd ?_
      have hcv : ∀ {v : Va} {l1 : List Nat}, lbR rc rn v l1 → lbR rc rn v l1 := fun h => h
      refine r_par hRg hrn (by omega) (hR.2 a ha).2.2.1 (hpar h6 a b rfl) (fun hp => ⟨fun _ => m140 ⟨fun e => absurd e h4, fun _ => ⟨a, b, rfl, hp⟩⟩, fun c => absurd c (by decide)⟩) (fun hp => ⟨fun c => absurd rfl c, fun _ => k0 (fun h => ?_)⟩)
      obtain ⟨a1, b1, e1, hp1⟩ := h.2 h6
      cases e1
      exact hp hp1
  · have h4 : op = 4 := r3.mp ((nI_eq (b := 3) (by omega) (by decide)).mp c3)
    cases l with
    | nil => exact absurd rfl (h46 (Or.inl h4))
    | cons a b =>
      obtain ⟨d, e, hd, ha, htl⟩ := lbR_cons hR hl
      have hva := (hR.2 a ha).2.2.1
      refine r_cdr1 hRg hi hrn hc ?_
      rw [e]
      refine r_car1 hRg ha hrn hd (r_sort hva ⟨fun c => k0 (fun h => ?_), fun c => ?_⟩)
      · obtain ⟨a1, b1, s, e1, hs⟩ := h.1 h4
        cases e1
        rw [hs] at c
        exact c rfl
      · have hsy : ∃ s, (rc a).1 = vsym s := by
          cases hv : (rc a).1 with
          | none => rw [hv] at c; exact absurd c (by decide)
          | some w =>
            rw [hv] at c
            rcases w with w | w | w | w | w | w
            · exact absurd c (show ¬ nI 2 = 3 by decide)
            · exact ⟨w, rfl⟩
            · exact absurd c (show ¬ nI 4 = 3 by decide)
            · exact absurd c (show ¬ nI 4 = 3 by decide)
            · exact absurd c (show ¬ nI 5 = 3 by decide)
            · exact absurd c (show ¬ nI 6 = 3 by decide)
        obtain ⟨s, hs⟩ := hsy
        unfold V_X12_wellFormed_116
        exact ⟨fun _ => m140 ⟨fun _ => ⟨a, b, s, rfl, hs⟩, fun e => by omega⟩, fun c5 => by have := r5.mp ((nI_eq (b := 5) (by omega) (by decide)).mp c5); omega⟩
end WFT
