-- ===== a collection, both sides =====
/-- roots: symbols, read cells, and X -/
def RtA (sy rn : Nat) (sv : Nat → Option Va) (rc : Nat → Va × Va) (X : Nat → Prop) (s : Nat) : Prop := (∃ i v, i < sy ∧ sv i = some v ∧ vref v = some s) ∨ (∃ i, i < rn ∧ (vref (rc i).1 = some s ∨ vref (rc i).2 = some s)) ∨ X s
theorem vref_made {v : Va} {s : Nat} (h : vref v = some s) : made v := by
  rcases v with _ | v | v | ⟨v, v2⟩ | v | v | v <;> first | trivial | cases h
theorem ref_none {v : Va} (h : ¬ made v) : vref v = none := by
  cases e : vref v with
  | none => rfl
  | some s => exact absurd (vref_made e) h
section GCA
variable {sy rn : Nat} {nam : Nat → List Nat} {sv : Nat → Option Va} {rc : Nat → Va × Va} {K : Nat → Nat → Prop} {C : Nat → Prop} {hp : Nat → Option Ob} {X : Nat → Prop} {c : Nat → Int32} {tp : Nat} {ent : Nat → Nat}
/-- what a collection asks of a state -/
def HPu (sy rn : Nat) (nam : Nat → List Nat) (sv : Nat → Option Va) (rc : Nat → Va × Va) (K : Nat → Nat → Prop) (C : Nat → Prop) (hp : Nat → Option Ob) (X : Nat → Prop) (c : Nat → Int32) (tp : Nat) (ent : Nat → Nat) : Prop :=
  (∀ s v, s < sy → sv s = some v → VV K C hp v) ∧ (∀ i x, K i x → ¬ C i → VV K C hp (rc i).1 ∧ VV K C hp (rc i).2) ∧ (∀ i, C i → ¬ made (rc i).1 ∧ ¬ made (rc i).2) ∧ (∀ i, i < rn → (made (rc i).1 → ∃ x, K i x) ∧ (made (rc i).2 → ∃ x, K i x)) ∧ (∀ s o, hp s = some o → s < 168 ∧ ObR rc nam K C c tp ent hp o) ∧ (∀ s, X s → s < 168 ∧ ∃ o, hp s = some o) ∧ tp ≤ 10000 ∧ ∀ i x, K i x → i < rn
theorem rc_VV (h : HPu sy rn nam sv rc K C hp X c tp ent) {i : Nat} (hi : i < rn) : (made (rc i).1 → VV K C hp (rc i).1) ∧ (made (rc i).2 → VV K C hp (rc i).2) := by
  obtain ⟨h1, h2, h3, h4, h5, h6, -⟩ := h
  refine ⟨fun m => ?_, fun m => ?_⟩
  · obtain ⟨x, hx⟩ := (h4 i hi).1 m
    exact (h2 i x hx (fun hc => (h3 i hc).1 m)).1
  · obtain ⟨x, hx⟩ := (h4 i hi).2 m
    exact (h2 i x hx (fun hc => (h3 i hc).2 m)).2
theorem ObR_in {o : Ob} (h : ObR rc nam K C c tp ent hp o) : (∀ v ∈ ovs o, VV K C hp v) ∧ (∃ sc, EnvR rc C hp (oenv o) sc) := by
  rcases o with ⟨a, d⟩ | l | ⟨r, e⟩ | ⟨p, q, l⟩
  · refine ⟨fun v hv => ?_, [], rfl⟩
    simp only [ovs, List.mem_cons, List.not_mem_nil, or_false] at hv
    rcases hv with rfl | rfl
    · exact h.1
    · exact h.2
  · exact ⟨fun v hv => h.2 v hv, [], rfl⟩
  · obtain ⟨d, sc, ps, b, p1, -, -, -, -, -, -, -, -, h9, -⟩ := h
    exact ⟨fun v hv => (by cases hv), sc, h9⟩
  · obtain ⟨h1, h2, ps, sc, h3, h4, h5, h6⟩ := h
    exact ⟨h2, sc, h5⟩
theorem ObR_len {o : Ob} (h : ObR rc nam K C c tp ent hp o) : olen o ≤ 8 := by
  rcases o with ⟨a, d⟩ | l | ⟨r, e⟩ | ⟨p, q, l⟩
  · show 2 ≤ 8; decide
  · have := h.1
    show l.length + 1 ≤ 8; omega
  · show 2 ≤ 8; decide
  · have := h.1
    show l.length + 2 ≤ 8; omega
theorem ObR_gok {o : Ob} (h : ObR rc nam K C c tp ent hp o) (ht : tp ≤ 10000) : ∀ y ∈ ogs ent o, gok hp y := by
  obtain ⟨hv, sc, he⟩ := ObR_in h
  have he := eok_gok (EnvR_ok he)
  have hl := ObR_len h
  intro y hy
  rcases o with ⟨a, d⟩ | l | ⟨r, e⟩ | ⟨p, q, l⟩
  · simp only [ogs, List.mem_cons, List.not_mem_nil, or_false] at hy
    rcases hy with rfl | rfl
    · exact VV_gok (hv a (by simp [ovs]))
    · exact VV_gok (hv d (by simp [ovs]))
  · have hl : l.length + 1 ≤ 8 := hl
    simp only [ogs, List.mem_cons, List.mem_map] at hy
    rcases hy with rfl | ⟨v, h1, rfl⟩
    · exact ⟨by omega, by omega⟩
    · exact VV_gok (hv v h1)
  · obtain ⟨d, sc, ps, b, p1, -, -, -, -, -, h6, -, h8, -⟩ := h
    have := (AtB_le (AtE_lt d (ps :: sc)) _ _ _ h6).1
    simp only [ogs, List.mem_cons, List.not_mem_nil, or_false] at hy
    rcases hy with rfl | rfl
    · exact ⟨by omega, by omega⟩
    · exact he
  · have hl : l.length + 2 ≤ 8 := hl
    simp only [ogs, List.mem_cons, List.mem_map] at hy
    rcases hy with rfl | rfl | ⟨v, h1, rfl⟩
    · exact he
    · exact ⟨by omega, by omega⟩
    · exact VV_gok (hv v h1)
theorem eref_ok {e s : Nat} (h : eok hp e) (hs : eref e = some s) : s < 168 ∧ ∃ o, hp s = some o := by
  cases e with
  | zero => cases hs
  | succ e => cases hs; obtain ⟨h1, p, q, l, h2⟩ := h; exact ⟨h1, _, h2⟩
theorem Live_ok (h : HPu sy rn nam sv rc K C hp X c tp ent) {s : Nat} (hs : Live hp (RtA sy rn sv rc X) s) : s < 168 ∧ ∃ o, hp s = some o := by
  refine hs (fun s => s < 168 ∧ ∃ o, hp s = some o) (fun t ht => ?_) (fun t o ht ho x hx => ?_)
  · rcases ht with ⟨i, v, hi, hv, hr⟩ | ⟨i, hi, hr | hr⟩ | ht
    · exact VV_ref (h.1 i v hi hv) hr
    · exact VV_ref ((rc_VV h hi).1 (vref_made hr)) hr
    · exact VV_ref ((rc_VV h hi).2 (vref_made hr)) hr
    · exact h.2.2.2.2.2.1 t ht
  · obtain ⟨hv, sc, he⟩ := ObR_in (h.2.2.2.2.1 t o ho).2
    rcases hx with ⟨v, h1, h2⟩ | hx
    · exact VV_ref (hv v h1) h2
    · exact eref_ok (EnvR_ok he) hx
/-- the state after a collection is as good -/
theorem HPu_gc (h : HPu sy rn nam sv rc K C hp X c tp ent) : HPu sy rn nam sv rc K C (gcH hp (RtA sy rn sv rc X)) X c tp ent := by
  obtain ⟨h1, h2, h3, h4, h5, h6, h7, h8⟩ := id h
  refine ⟨fun s v hs hv => VV_live (h1 s v hs hv) (fun t ht => Live_rt (Or.inl ⟨s, v, hs, hv, ht⟩)), fun i x hx hc => ?_, h3, h4, fun s o ho => ?_, fun s hs => ?_, h7, h8⟩
  · exact ⟨VV_live (h2 i x hx hc).1 (fun t ht => Live_rt (Or.inr (Or.inl ⟨i, h8 i x hx, Or.inl ht⟩))), VV_live (h2 i x hx hc).2 (fun t ht => Live_rt (Or.inr (Or.inl ⟨i, h8 i x hx, Or.inr ht⟩)))⟩
  · obtain ⟨hl, ho⟩ := gcH_some ho
    obtain ⟨a, b⟩ := h5 s o ho
    exact ⟨a, ObR_tr2 (Nat.le_refl _) (fun _ _ => rfl) (fun i hi => ⟨hi, rfl⟩) (fun _ _ => rfl) (fun _ h => h) (fun _ _ => rfl) o (fun v hv hvv => VV_live hvv (fun t ht => Live_cl hl ho (Or.inl ⟨v, hv, ht⟩))) (fun sc he => EnvR_live sc _ (fun t ht => Live_cl hl ho (Or.inr ht)) he) b⟩
  · obtain ⟨a, o, ho⟩ := h6 s hs
    exact ⟨a, o, by rw [gcH_y (Live_rt (Or.inr (Or.inr hs)))]; exact ho⟩
/-- the word of a read cell -/
noncomputable def xrK (K : Nat → Nat → Prop) (rc : Nat → Va × Va) (t : Nat) : Gw :=
  @dite _ (∃ i, K i (t / 2)) (Classical.propDecidable _) (fun h => some (.inl (if t % 2 = 0 then (rc (Classical.choose h)).1 else (rc (Classical.choose h)).2))) (fun _ => none)
theorem xrK_at {i x : Nat} {t : Nat} (hK : K i x) (hu : ∀ i k x, K i x → K k x → i = k) (ht : t / 2 = x) : xrK K rc t = some (.inl (if t % 2 = 0 then (rc i).1 else (rc i).2)) := by
  have h : ∃ i, K i (t / 2) := ⟨i, by rw [ht]; exact hK⟩
  unfold xrK
  rw [@dif_pos _ (Classical.propDecidable _) h]
  have e : Classical.choose h = i := hu _ _ _ (Classical.choose_spec h) (by rw [ht]; exact hK)
  rw [e]
def stX (l : List Gw) (t : Nat) : Gw := l.getD (l.length - 1 - t) none
theorem stX_at {g : St} {φ : Nat → Nat} {l : List Gw} (h : StkR g (l.map (gw φ))) {t : Nat} (ht : t < l.length) : g 1 t = gw φ (stX l t) ∧ stX l t ∈ l := by
  have h1 := h.2 t (by simpa using ht)
  have hl : l.length - 1 - t < l.length := by omega
  have e : stX l t = l[l.length - 1 - t] := by unfold stX; rw [List.getD_eq_getElem?_getD, List.getElem?_eq_getElem hl]; rfl
  refine ⟨?_, by rw [e]; exact List.getElem_mem hl⟩
  rw [h1, e, List.length_map, List.getD_eq_getElem?_getD, List.getElem?_map, List.getElem?_eq_getElem hl]; rfl
theorem stX_mem {l : List Gw} {y : Gw} (h : y ∈ l) : ∃ t, t < l.length ∧ stX l t = y := by
  obtain ⟨i, hi, e⟩ := getD_of_mem h
  refine ⟨l.length - 1 - i, by omega, ?_⟩
  unfold stX
  rw [show l.length - 1 - (l.length - 1 - i) = i by omega]; exact e
theorem stX_back {g g1 : St} {φ ψ : Nat → Nat} {l : List Gw} (h : StkR g (l.map (gw φ))) (h0 : g1 0 = g 0) (h1 : ∀ t, t < l.length → g1 1 t = gw ψ (stX l t)) : StkR g1 (l.map (gw ψ)) := by
  refine ⟨by rw [h0, h.1, List.length_map, List.length_map], fun i hi => ?_⟩
  have hi : i < l.length := by simpa using hi
  have hl : l.length - 1 - i < l.length := by omega
  rw [h1 i hi]
  unfold stX
  rw [List.length_map, List.getD_eq_getElem?_getD, List.getD_eq_getElem?_getD, List.getElem?_map, List.getElem?_eq_getElem hl]; rfl
def swX (sv : Nat → Option Va) (t : Nat) : Gw := (sv t).map Sum.inl
end GCA
