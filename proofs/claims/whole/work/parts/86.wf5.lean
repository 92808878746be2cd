section WFS
variable {g0 : St} {k : StL} {rc : Nat → Va × Va} {rn : Nat}
/-- the parts that are looked at -/
def wfP (i : Nat) (l : List Nat) : Nat → List Nat
  | 0 => i :: l
  | 1 => []
  | 4 => l.tail
  | 6 => l.tail
  | _ => l
theorem lbR_tl {v : Va} {a : Nat} {l : List Nat} (hR : RdM g0 rc rn) (h : lbR rc rn v (a :: l)) : lbR rc rn (rc a).2 l := by
  obtain ⟨c, -, -, -, h⟩ := lbR_cons hR h
  exact h
theorem r_wf140 {K9 : Int32 → St → StL → Prop} {post : Int32 → St → StL → Prop} {i c n op : Nat} {l : List Nat} {pd : List Va} {g : St} (hR : RdM g0 rc rn) (hrn : rn ≤ 1100) (hi : i < rn) (hc : c < 1024) (hl : lbR rc rn (rc i).2 l) (hop : op < 32) (hn : l.length + 10 < n) (h2 : pd.length + l.length + 1 ≤ 1100) (hP : PdR g0 g pd) (h46 : op = 4 ∨ op = 6 → l ≠ [])
    (kk : ∀ g1, PdR g0 g1 (((wfP i l op).map (fun x => (rc x).1)).reverse ++ pd) → K9 (nI (pd.length + (wfP i l op).length)) g1 k) : V_X12_wellFormed_140 K9 post n (nI pd.length) (enc (vrd i c)) (nI (opR op)) g k := by
  have hRg := PdR_rd hP hR
  have hor : opR op < 32 := by unfold opR; split <;> omega
  have tl : ∀ a b, l = a :: b → V_X12_cdr (enc (vrd i c)) g k (fun r_15 g_13 k_14 => V_X12_cdr r_15 g_13 k_14 (fun r_18 g_16 k_17 => V_X12_wellFormed_196 K9 post n (nI pd.length) r_18 g_16 k_17)) ∨ True := fun _ _ _ => Or.inr trivial
  have ne : ∀ m, m < 32 → opR op ≠ m → ¬ nI (opR op) = nI m := fun m hm h e => h ((nI_eq (by omega) (by omega)).mp e)
  have tail : (op = 4 ∨ op = 6) → V_X12_cdr (enc (vrd i c)) g k (fun r_15 g_13 k_14 => V_X12_cdr r_15 g_13 k_14 (fun r_18 g_16 k_17 => V_X12_wellFormed_196 K9 post n (nI pd.length) r_18 g_16 k_17)) := by
    intro h4
    cases l with
    | nil => exact absurd rfl (h46 h4)
    | cons a b =>
      have hb : (b.length + 1) + 10 < n := hn
      have hb2 : pd.length + (b.length + 1) + 1 ≤ 1100 := h2
      obtain ⟨d, e, hd, ha, htl⟩ := lbR_cons hR hl
      refine r_cdr1 hRg hi hrn hc ?_
      rw [e]
      refine r_cdr1 hRg ha hrn hd (r_wf196 hR hrn b n _ pd g (by omega) (by omega) htl hP (fun g1 hg => ?_))
      have ew : wfP i (a :: b) op = b := by rcases h4 with rfl | rfl <;> rfl
      rw [ew] at kk
      exact kk g1 hg
  unfold V_X12_wellFormed_140
  refine ⟨fun c31 => ⟨fun c0 => ⟨fun c3 => ?_, fun c3 => ⟨fun c5 => ?_, fun c5 => ?_⟩⟩, fun c0 => eqI ?_⟩, fun c31 => ?_⟩
  · have : opR op = 3 := (nI_eq (b := 3) (by omega) (by decide)).mp c3
    exact tail (Or.inl (by unfold opR at this; split at this <;> omega))
  · have h0 : op ≠ 0 := fun e => c31 (by rw [e]; rfl)
    have h1 : op ≠ 1 := fun e => c0 (by rw [e]; rfl)
    have h4 : op ≠ 4 := fun e => c3 (by rw [e]; rfl)
    have h6 : op ≠ 6 := fun e => c5 (by rw [e]; rfl)
    have ew : wfP i l op = l := by unfold wfP; split <;> first | rfl | (exact absurd rfl (by assumption))
    rw [ew] at kk
    exact r_cdr1 hRg hi hrn hc (r_wf196 hR hrn l n _ pd g (by omega) (by omega) hl hP kk)
  · have : opR op = 5 := (nI_eq (b := 5) (by omega) (by decide)).mp c5
    exact tail (Or.inr (by unfold opR at this; split at this <;> omega))
  · have : opR op = 0 := (nI_eq (b := 0) (by omega) (by decide)).mp c0
    have e1 : op = 1 := by unfold opR at this; split at this <;> omega
    subst e1
    exact r_wf196 (v := vnil) hR hrn [] n pd g (by simp; omega) (by simp; omega) ⟨rfl, fun x hx => (by cases hx), trivial⟩ hP kk
  · have : opR op = 31 := (nI_eq (b := 31) (by omega) (by decide)).mp c31
    have e0 : op = 0 := by unfold opR at this; split at this <;> omega
    subst e0
    refine r_wf196 hR hrn (i :: l) n _ pd g (by simp; omega) (by simp; omega) ⟨⟨⟨c, rfl⟩, hl.1⟩, fun x hx => ?_, ⟨by omega, hc⟩⟩ hP kk
    rcases List.mem_cons.mp hx with e | e
    · rw [e]; exact hi
    · exact hl.2.1 x e
end WFS
