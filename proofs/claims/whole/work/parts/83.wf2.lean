section WFP
variable {g : St} {k : StL} {rc : Nat → Va × Va} {rn : Nat}
theorem r_par61 {x c s : Nat} {post : Int32 → St → StL → Prop} {K35 : Int32 → St → StL → Prop} (hR : RdM g rc rn) (hrn : rn ≤ 1100) (hx : x < rn) (hc : c < 1024) (hs : (rc x).1 = vsym s) (hs40 : s < 40) : ∀ (l : List Nat) (n : Nat) (v : Va), l.length < n → lbR rc rn v l → (fIx rc s l = none → K35 (enc (rc x).2) g k) → (fIx rc s l ≠ none → post 0 g k) → V_X12_parameters_61 K35 post n (enc (vrd x c)) (enc v) g k
  | [], n, v, h1, h, kn, _ => by
    obtain ⟨n, rfl⟩ : ∃ n', n = n' + 1 := ⟨n - 1, by omega⟩
    have e : v = vnil := h.1
    subst e
    unfold V_X12_parameters_61
    exact ⟨fun _ => r_cdr1 hR hx hrn hc (kn rfl), fun c => absurd rfl c⟩
  | y :: l, n, v, h1, h, kn, ks => by
    obtain ⟨n, rfl⟩ : ∃ n', n = n' + 1 := ⟨n - 1, by omega⟩
    obtain ⟨d, rfl, hd, hy, hl⟩ := lbR_cons hR h
    have h1 : l.length + 1 < n + 1 := h1
    have hf : fIx rc s (y :: l) = if (rc y).1 = vsym s then some 0 else (fIx rc s l).map (fun i => i + 1) := rfl
    unfold V_X12_parameters_61
    refine ⟨fun c => absurd c (rd_nnil (by omega)), fun _ => r_car1 hR hy hrn hd (r_car1 hR hx hrn hc ?_)⟩
    have hvy := (hR.2 y hy).2.2.1
    refine ⟨fun c => r_cdr1 hR hy hrn hd ?_, fun c => ?_⟩
    · have hne : ¬ (rc y).1 = vsym s := fun e => c (by rw [e, hs])
      rw [if_neg hne] at hf
      refine r_par61 hR hrn hx hc hs hs40 l n _ (by omega) hl (fun e => kn (by rw [hf, e]; rfl)) (fun e => ks (fun e2 => e ?_))
      rw [hf] at e2
      cases e3 : fIx rc s l with
      | none => rfl
      | some j => rw [e3] at e2; cases e2
    · refine ks ?_
      rw [hs] at c
      have he : (rc y).1 = vsym s := by
        have h1 : nI (1048576 * vkd (rc y).1 + vld (rc y).1) = nI (1048576 * 3 + s) := c
        have a1 := va_ld_lt hvy
        have a2 := va_kd_lt (rc y).1
        have h2 := (nI_eq (by omega) (by omega)).mp h1
        have h3 : vkd (rc y).1 = 3 := by omega
        have h4 : vld (rc y).1 = s := by omega
        cases hv : (rc y).1 with
        | none => rw [hv] at h3; exact absurd h3 (by decide)
        | some w =>
          rw [hv] at h3 h4
          rcases w with w | w | w | w | w | w
          · exact absurd h3 (show ¬ 2 = 3 by decide)
          · have h4 : w = s := h4
            rw [h4]
          · exact absurd h3 (show ¬ 4 = 3 by decide)
          · exact absurd h3 (show ¬ 4 = 3 by decide)
          · exact absurd h3 (show ¬ 5 = 3 by decide)
          · exact absurd h3 (show ¬ 6 = 3 by decide)
      rw [hf, if_pos he]
      exact fun c => by cases c
theorem r_par35 {post : Int32 → St → StL → Prop} (hR : RdM g rc rn) (hrn : rn ≤ 1100) : ∀ (l : List Nat) (n : Nat) (v : Va), 2 * l.length + 2 < n → lbR rc rn v l → (difS rc l → post 1 g k) → (¬ difS rc l → post 0 g k) → V_X12_parameters_35 post n (enc v) g k
  | [], n, v, h1, h, k1, _ => by
    obtain ⟨n, rfl⟩ : ∃ n', n = n' + 1 := ⟨n - 1, by omega⟩
    have e : v = vnil := h.1
    subst e
    unfold V_X12_parameters_35
    exact ⟨fun _ => k1 trivial, fun c => absurd rfl c⟩
  | x :: l, n, v, h1, h, k1, k0 => by
    obtain ⟨n, rfl⟩ : ∃ n', n = n' + 1 := ⟨n - 1, by omega⟩
    obtain ⟨c, rfl, hc, hx, hl⟩ := lbR_cons hR h
    have h1 : 2 * (l.length + 1) + 2 < n + 1 := h1
    have hvx := (hR.2 x hx).2.2.1
    unfold V_X12_parameters_35
    refine ⟨fun c => absurd c (rd_nnil (by omega)), fun _ => r_car1 hR hx hrn hc (r_sort hvx ⟨fun c3 => ?_, fun c3 => k0 (fun hd => ?_)⟩)⟩
    · have hsy : ∃ s, (rc x).1 = vsym s ∧ s < 40 := by
        cases hv : (rc x).1 with
        | none => rw [hv] at c3; exact absurd c3 (by decide)
        | some w =>
          rw [hv] at c3 hvx
          rcases w with w | w | w | w | w | w
          · exact absurd c3 (show ¬ nI 2 = 3 by decide)
          · exact ⟨w, rfl, hvx⟩
          · exact absurd c3 (show ¬ nI 4 = 3 by decide)
          · exact absurd c3 (show ¬ nI 4 = 3 by decide)
          · exact absurd c3 (show ¬ nI 5 = 3 by decide)
          · exact absurd c3 (show ¬ nI 6 = 3 by decide)
      obtain ⟨s, hs, hs40⟩ := hsy
      refine r_cdr1 hR hx hrn hc (r_par61 hR hrn hx hc hs hs40 l n _ (by omega) hl (fun e => ?_) (fun e => k0 (fun hd => ?_)))
      · refine r_par35 hR hrn l n _ (by omega) hl (fun hd => k1 ⟨s, hs, e, hd⟩) (fun hd => k0 (fun ⟨_, _, _, h3⟩ => hd h3))
      · obtain ⟨s2, h2, h3, -⟩ := hd
        rw [hs] at h2
        cases h2
        exact e h3
    · obtain ⟨s, hs, -⟩ := hd
      rw [hs] at c3
      exact c3 rfl
theorem r_par {n : Nat} {v : Va} {post : Int32 → St → StL → Prop} (hR : RdM g rc rn) (hrn : rn ≤ 1100) (hn : 3000 ≤ n) (hvv : vok v) (hv : (∃ sy, atm sy v ∧ v ≠ vnil) ∨ ∃ l, lbR rc rn v l ∧ l.length < 1100) (k1 : ParOK rc v → post 1 g k) (k0 : ¬ ParOK rc v → post 0 g k) : V_X12_parameters n (enc v) g k post := by
  have p14 : ∀ l, lbR rc rn v l → l.length < 1100 → V_X12_parameters_14 post n (enc v) g k := by
    intro l hl hl2
    have go : l.length ≤ 4 → V_X12_parameters_35 post n (enc v) g k := fun h4 => r_par35 hR hrn l n v (by omega) hl (fun hd => k1 ⟨l, hl.1, h4, hd⟩) (fun hd => k0 (fun ⟨l1, h1, _, h3⟩ => hd (by rw [Lst_uni l l1 v hl.1 h1]; exact h3)))
    unfold V_X12_parameters_14
    refine r_sort hvv ⟨fun c => go ?_, fun _ => r_parts hR hrn (by omega) (by omega) hl ⟨fun c => go ((nI_leI (b := 4) (by omega) (by decide)).mp c), fun c => k0 (fun ⟨l1, h1, h2, _⟩ => c (nI_le (b := 4) (by rw [Lst_uni l l1 v hl.1 h1]; exact h2) (by decide)))⟩⟩
    cases l with
    | nil => decide
    | cons x l =>
      obtain ⟨c1, e, -⟩ := lbR_cons hR hl
      rw [e] at c
      exact absurd rfl c
  unfold V_X12_parameters
  refine ⟨fun c => ?_, fun c => r_sort hvv ⟨fun c4 => k0 (fun ⟨l, h1, _⟩ => ?_), fun c4 => ?_⟩⟩
  · rcases hv with ⟨sy, ha, hnn⟩ | ⟨l, hl, hl2⟩
    · exfalso
      have h1 : nI (1048576 * vkd v + vld v) = nI 1048576 := c
      have a1 := va_ld_lt hvv
      have a2 := va_kd_lt v
      have h2 := (nI_eq (by omega) (by decide)).mp h1
      rcases v with _ | w | w | w | w | w | w
      · exact hnn rfl
      · have : 1048576 * 2 + vld (some (Sum.inl w)) = 1048576 := h2
        omega
      · have : 1048576 * 3 + w = 1048576 := h2
        omega
      · exact ha.elim
      · exact ha.elim
      · exact ha.elim
      · exact ha.elim
    · exact p14 l hl hl2
  · cases l with
    | nil => exact c (by rw [show v = vnil from h1]; rfl)
    | cons x l =>
      obtain ⟨⟨d, e⟩, -⟩ := h1
      rw [e] at c4
      exact c4 rfl
  · rcases hv with ⟨sy, ha, hnn⟩ | ⟨l, hl, hl2⟩
    · exfalso
      rcases v with _ | w | w | w | w | w | w
      · exact hnn rfl
      · exact absurd c4 (show ¬ nI 2 = 4 by decide)
      · exact absurd c4 (show ¬ nI 3 = 4 by decide)
      · exact ha.elim
      · exact ha.elim
      · exact ha.elim
      · exact ha.elim
    · exact p14 l hl hl2
end WFP
