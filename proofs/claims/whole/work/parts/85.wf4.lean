section WFO1
variable {g : St} {k : StL} {rc : Nat → Va × Va} {rn sy : Nat} {nam : Nat → List Nat}
theorem r_opOf {i c : Nat} {post : Int32 → St → StL → Prop} (hR : RdM g rc rn) (hrn : rn ≤ 1100) (hi : i < rn) (hc : c < 1024) (hy : sy ≤ 40) (hO : ∀ s, s < sy → g 1 s = nI (opR (opx (nam s)))) (hs : ∀ s, (rc i).1 = vsym s → s < sy) (kk : post (nI (opR (opV nam (rc i).1))) g k) : V_X12_opOf (enc (vrd i c)) g k post := by
  have hv := (hR.2 i hi).2.2.1
  unfold V_X12_opOf
  refine r_car1 hR hi hrn hc (r_sort hv ⟨fun c3 => ?_, fun c3 => r_car1 hR hi hrn hc (r_load hv ?_)⟩)
  · have e : opV nam (rc i).1 = 0 := by
      cases e : (rc i).1 with
      | none => rfl
      | some w =>
        rcases w with w | w | w
        · rfl
        · rw [e] at c3; exact absurd rfl c3
        · rfl
    rw [e] at kk
    exact kk
  · cases e : (rc i).1 with
    | none => rw [e] at c3; exact absurd c3 (by decide)
    | some w =>
      rcases w with w | w | w | w | w | w
      · rw [e] at c3; exact absurd c3 (show ¬ nI 2 = 3 by decide)
      · have hw := hs w e
        rw [e] at kk
        have e2 : (nI (vld (vsym w))).toNatClampNeg = w := nI_clamp (n := w) (by omega)
        rw [e2, hO w hw]
        exact ⟨vp_in_nI (n := w) (by omega) (by decide), kk⟩
      · rw [e] at c3; exact absurd c3 (show ¬ nI 4 = 3 by decide)
      · rw [e] at c3; exact absurd c3 (show ¬ nI 4 = 3 by decide)
      · rw [e] at c3; exact absurd c3 (show ¬ nI 5 = 3 by decide)
      · rw [e] at c3; exact absurd c3 (show ¬ nI 6 = 3 by decide)
theorem opV_lt (nam : Nat → List Nat) (v : Va) : opV nam v < 32 := by
  unfold opV
  split
  · exact opx_lt _
  · decide
end WFO1
