section WFL
variable {g0 : St} {k : StL} {rc : Nat → Va × Va} {rn : Nat}
/-- what is still to be looked at, the newest first -/
def PdR (g0 g : St) (pd : List Va) : Prop := (∀ c, c ≠ 22 → g c = g0 c) ∧ ∀ t, t < pd.length → g 22 t = enc (pd.getD (pd.length - 1 - t) none)
theorem PdR_rd {g : St} {pd : List Va} (h : PdR g0 g pd) (hR : RdM g0 rc rn) : RdM g rc rn := by
  refine ⟨by rw [h.1 0 (by decide)]; exact hR.1, fun i hi => ?_⟩
  rw [h.1 6 (by decide), h.1 7 (by decide)]
  exact hR.2 i hi
theorem PdR_push {g : St} {pd : List Va} {v : Va} (h : PdR g0 g pd) : PdR g0 (up g 22 pd.length (enc v)) (v :: pd) := by
  refine ⟨fun c hc => by rw [upB _ _ _ hc]; exact h.1 c hc, fun t ht => ?_⟩
  have ht : t < pd.length + 1 := ht
  rw [upA]
  by_cases e : t = pd.length
  · subst e
    rw [updE]
    show _ = enc ((v :: pd).getD (pd.length + 1 - 1 - pd.length) none)
    rw [show pd.length + 1 - 1 - pd.length = 0 by omega]; rfl
  · rw [updN _ _ e, h.2 t (by omega)]
    show _ = enc ((v :: pd).getD (pd.length + 1 - 1 - t) none)
    rw [show pd.length + 1 - 1 - t = (pd.length - 1 - t) + 1 by omega]; rfl
theorem PdR_pop {g : St} {pd : List Va} {v : Va} (h : PdR g0 g (v :: pd)) : PdR g0 g pd ∧ g 22 pd.length = enc v := by
  refine ⟨⟨h.1, fun t ht => ?_⟩, ?_⟩
  · have := h.2 t (by show t < pd.length + 1; omega)
    rw [this]
    show enc ((v :: pd).getD (pd.length + 1 - 1 - t) none) = _
    rw [show pd.length + 1 - 1 - t = (pd.length - 1 - t) + 1 by omega]; rfl
  · have := h.2 pd.length (by show pd.length < pd.length + 1; omega)
    rw [this]
    show enc ((v :: pd).getD (pd.length + 1 - 1 - pd.length) none) = _
    rw [show pd.length + 1 - 1 - pd.length = 0 by omega]; rfl
theorem r_wf196 {K9 : Int32 → St → StL → Prop} {post : Int32 → St → StL → Prop} (hR : RdM g0 rc rn) (hrn : rn ≤ 1100) : ∀ (l : List Nat) (n : Nat) (v : Va) (pd : List Va) (g : St), l.length < n → pd.length + l.length ≤ 1100 → lbR rc rn v l → PdR g0 g pd → (∀ g1, PdR g0 g1 ((l.map (fun x => (rc x).1)).reverse ++ pd) → K9 (nI (pd.length + l.length)) g1 k) → V_X12_wellFormed_196 K9 post n (nI pd.length) (enc v) g k
  | [], n, v, pd, g, h1, _, h, hP, kk => by
    obtain ⟨n, rfl⟩ : ∃ n', n = n' + 1 := ⟨n - 1, by omega⟩
    have e : v = vnil := h.1
    subst e
    unfold V_X12_wellFormed_196
    exact ⟨fun _ => kk g hP, fun c => absurd rfl c⟩
  | x :: l, n, v, pd, g, h1, h2, h, hP, kk => by
    obtain ⟨n, rfl⟩ : ∃ n', n = n' + 1 := ⟨n - 1, by omega⟩
    obtain ⟨c, rfl, hc, hx, hl⟩ := lbR_cons hR h
    have h1 : l.length + 1 < n + 1 := h1
    have h2 : pd.length + (l.length + 1) ≤ 1100 := h2
    unfold V_X12_wellFormed_196
    refine ⟨fun c => absurd c (rd_nnil (by omega)), fun _ => r_car1 (PdR_rd hP hR) hx hrn hc ⟨vp_in_nI (by omega) (by decide), eqI ?_⟩⟩
    rw [nI_clamp (by omega), nI_1]
    have hP1 := PdR_push (v := (rc x).1) hP
    refine eqI (r_cdr1 (PdR_rd hP1 hR) hx hrn hc ?_)
    have := r_wf196 (K9 := K9) (post := post) hR hrn l n _ ((rc x).1 :: pd) _ (by omega) (by show pd.length + 1 + l.length ≤ 1100; omega) hl hP1 (fun g1 hg => ?_)
    · exact this
    · have h9 := kk g1 (by
        have e : (List.map (fun x => (rc x).1) (x :: l)).reverse ++ pd = (l.map (fun x => (rc x).1)).reverse ++ (rc x).1 :: pd := by simp
        rw [e]; exact hg)
      have e2 : pd.length + (x :: l).length = ((rc x).1 :: pd).length + l.length := by show pd.length + (l.length + 1) = pd.length + 1 + l.length; omega
      rw [e2] at h9
      exact h9
end WFL
