-- ===== both ways to say it =====
def arOK (op len : Nat) : Prop := FEWL.getD op 0 ≤ nI len ∧ nI len ≤ MOSTL.getD op 0
theorem ar_iff {a b len : Nat} (hl : len < 1000) (ha : a < 2000000) (hb : b < 2000000) : (nI a ≤ nI len ∧ nI len ≤ nI b) ↔ (a ≤ len ∧ len ≤ b) := by
  rw [nI_leI (by omega) (by omega), nI_leI (by omega) (by omega)]
theorem WFO_iff {rc : Nat → Va × Va} {F : Va → Prop} {i : Nat} {l : List Nat} (hl : l.length < 1000) : ∀ (op : Nat), (arOK op l.length ∧ wfC rc l op ∧ ∀ x ∈ wfP i l op, F (rc x).1) ↔ WFO rc F i l op
  | 0 => by
    have e : arOK 0 l.length ↔ (0 ≤ l.length ∧ l.length ≤ 4) := ar_iff (a := 0) (b := 4) hl (by decide) (by decide)
    rw [e]
    exact ⟨fun h => ⟨h.1.2, h.2.2⟩, fun h => ⟨⟨Nat.zero_le _, h.1⟩, ⟨fun c => (by cases c), fun c => (by cases c)⟩, h.2⟩⟩
  | 1 => by
    have e : arOK 1 l.length ↔ (1 ≤ l.length ∧ l.length ≤ 1) := ar_iff (a := 1) (b := 1) hl (by decide) (by decide)
    rw [e]
    exact ⟨fun h => (by show l.length = 1; omega), fun h => by have h : l.length = 1 := h; exact ⟨by omega, ⟨fun c => (by cases c), fun c => (by cases c)⟩, fun x hx => (by cases hx)⟩⟩
  | 2 => by
    have e : arOK 2 l.length ↔ (2 ≤ l.length ∧ l.length ≤ 3) := ar_iff (a := 2) (b := 3) hl (by decide) (by decide)
    rw [e]
    exact ⟨fun h => ⟨h.1.1, h.1.2, h.2.2⟩, fun h => ⟨⟨h.1, h.2.1⟩, ⟨fun c => (by cases c), fun c => (by cases c)⟩, h.2.2⟩⟩
  | 3 => by
    have e : arOK 3 l.length ↔ (0 ≤ l.length ∧ l.length ≤ 1000000) := ar_iff (a := 0) (b := 1000000) hl (by decide) (by decide)
    rw [e]
    exact ⟨fun h => h.2.2, fun h => ⟨⟨Nat.zero_le _, by omega⟩, ⟨fun c => (by cases c), fun c => (by cases c)⟩, h⟩⟩
  | 4 => by
    have e : arOK 4 l.length ↔ (2 ≤ l.length ∧ l.length ≤ 2) := ar_iff (a := 2) (b := 2) hl (by decide) (by decide)
    rw [e]
    refine ⟨fun ⟨h1, h2, h3⟩ => ?_, fun h => ?_⟩
    · obtain ⟨a, b, s, e, hs⟩ := h2.1 rfl
      subst e
      cases b with
      | nil => have h1 : 2 ≤ 1 ∧ 1 ≤ 2 := h1; omega
      | cons b r =>
        cases r with
        | nil => exact ⟨a, b, s, rfl, hs, h3 b (by show b ∈ [b]; simp)⟩
        | cons y r => have h1 : 2 ≤ r.length + 3 ∧ r.length + 3 ≤ 2 := h1; omega
    · obtain ⟨a, b, s, e, hs, hf⟩ := h
      subst e
      exact ⟨⟨Nat.le_refl 2, Nat.le_refl 2⟩, ⟨fun _ => ⟨a, [b], s, rfl, hs⟩, fun c => (by cases c)⟩, fun x hx => by
        have hx : x ∈ [b] := hx
        simp at hx
        rw [hx]; exact hf⟩
  | 5 => by
    have e : arOK 5 l.length ↔ (1 ≤ l.length ∧ l.length ≤ 1000000) := ar_iff (a := 1) (b := 1000000) hl (by decide) (by decide)
    rw [e]
    exact ⟨fun h => ⟨fun c => (by rw [c] at h; exact absurd h.1.1 (by decide)), h.2.2⟩, fun h => ⟨⟨List.length_pos_iff.mpr h.1, by omega⟩, ⟨fun c => (by cases c), fun c => (by cases c)⟩, h.2⟩⟩
  | 6 => by
    have e : arOK 6 l.length ↔ (1 ≤ l.length ∧ l.length ≤ 1000000) := ar_iff (a := 1) (b := 1000000) hl (by decide) (by decide)
    rw [e]
    refine ⟨fun ⟨h1, h2, h3⟩ => ?_, fun h => ?_⟩
    · obtain ⟨a, b, e, hp⟩ := h2.2 rfl
      subst e
      exact ⟨a, b, rfl, hp, h3⟩
    · obtain ⟨a, b, e, hp, hf⟩ := h
      subst e
      exact ⟨⟨by simp, by omega⟩, ⟨fun c => (by cases c), fun _ => ⟨a, b, rfl, hp⟩⟩, hf⟩
  | 7 => by
    have e : arOK 7 l.length ↔ (1 ≤ l.length ∧ l.length ≤ 1000000) := ar_iff (a := 1) (b := 1000000) hl (by decide) (by decide)
    rw [e]
    exact ⟨fun h => ⟨fun c => (by rw [c] at h; exact absurd h.1.1 (by decide)), h.2.2⟩, fun h => ⟨⟨List.length_pos_iff.mpr h.1, by omega⟩, ⟨fun c => (by cases c), fun c => (by cases c)⟩, h.2⟩⟩
  | 8 => by
    have e : arOK 8 l.length ↔ (2 ≤ l.length ∧ l.length ≤ 2) := ar_iff (a := 2) (b := 2) hl (by decide) (by decide)
    rw [e]
    exact ⟨fun h => ⟨by omega, h.2.2⟩, fun h => ⟨by have := h.1; omega, ⟨fun c => (by cases c), fun c => (by cases c)⟩, h.2⟩⟩
  | op + 9 => ⟨fun h => ⟨h.1.1, h.1.2, h.2.2⟩, fun h => ⟨⟨h.1, h.2.1⟩, ⟨fun c => (by omega), fun c => (by omega)⟩, h.2.2⟩⟩
