-- ===== what is live =====
def oref (o : Ob) (x : Nat) : Prop := (∃ v, v ∈ ovs o ∧ vref v = some x) ∨ eref (oenv o) = some x
/-- all that can be reached -/
def Live (hp : Nat → Option Ob) (R : Nat → Prop) (s : Nat) : Prop := ∀ S : Nat → Prop, (∀ t, R t → S t) → (∀ t o, S t → hp t = some o → ∀ x, oref o x → S x) → S s
theorem Live_rt {hp : Nat → Option Ob} {R : Nat → Prop} {s : Nat} (h : R s) : Live hp R s := fun _ h1 _ => h1 s h
theorem Live_cl {hp : Nat → Option Ob} {R : Nat → Prop} {s x : Nat} {o : Ob} (h : Live hp R s) (ho : hp s = some o) (hx : oref o x) : Live hp R x := fun S h1 h2 => h2 s o (h S h1 h2) ho x hx
noncomputable def gcH (hp : Nat → Option Ob) (R : Nat → Prop) : Nat → Option Ob := fun s => @ite _ (Live hp R s) (Classical.propDecidable _) (hp s) none
theorem gcH_y {hp : Nat → Option Ob} {R : Nat → Prop} {s : Nat} (h : Live hp R s) : gcH hp R s = hp s := @if_pos _ (Classical.propDecidable _) h _ _ _
theorem gcH_n {hp : Nat → Option Ob} {R : Nat → Prop} {s : Nat} (h : ¬ Live hp R s) : gcH hp R s = none := @if_neg _ (Classical.propDecidable _) h _ _ _
theorem gcH_some {hp : Nat → Option Ob} {R : Nat → Prop} {s : Nat} {o : Ob} (h : gcH hp R s = some o) : Live hp R s ∧ hp s = some o := by
  by_cases e : Live hp R s
  · rw [gcH_y e] at h; exact ⟨e, h⟩
  · rw [gcH_n e] at h; cases h
theorem ogs_ref {ent : Nat → Nat} {o : Ob} {y : Gw} {t : Nat} (hy : y ∈ ogs ent o) (ht : gref y = some t) : oref o t := by
  rcases o with ⟨a, d⟩ | l | ⟨r, e⟩ | ⟨p, q, l⟩
  · simp only [ogs, List.mem_cons, List.not_mem_nil, or_false] at hy
    rcases hy with rfl | rfl
    · exact Or.inl ⟨a, by simp [ovs], ht⟩
    · exact Or.inl ⟨d, by simp [ovs], ht⟩
  · simp only [ogs, List.mem_cons, List.mem_map] at hy
    rcases hy with rfl | ⟨v, hv, rfl⟩
    · cases ht
    · exact Or.inl ⟨v, hv, ht⟩
  · simp only [ogs, List.mem_cons, List.not_mem_nil, or_false] at hy
    rcases hy with rfl | rfl
    · cases ht
    · refine Or.inr ?_
      cases e with
      | zero => cases ht
      | succ e => exact ht
  · simp only [ogs, List.mem_cons, List.mem_map] at hy
    rcases hy with rfl | rfl | ⟨v, hv, rfl⟩
    · refine Or.inr ?_
      cases p with
      | zero => cases ht
      | succ e => exact ht
    · cases ht
    · exact Or.inl ⟨v, hv, ht⟩
theorem ref_ogs {ent : Nat → Nat} {o : Ob} {t : Nat} (h : oref o t) : ∃ y, y ∈ ogs ent o ∧ gref y = some t := by
  rcases o with ⟨a, d⟩ | l | ⟨r, e⟩ | ⟨p, q, l⟩
  · rcases h with ⟨v, hv, ht⟩ | h
    · simp only [ovs, List.mem_cons, List.not_mem_nil, or_false] at hv
      rcases hv with rfl | rfl
      · exact ⟨some (.inl v), by simp [ogs], ht⟩
      · exact ⟨some (.inl v), by simp [ogs], ht⟩
    · cases h
  · rcases h with ⟨v, hv, ht⟩ | h
    · exact ⟨some (.inl v), by simp only [ogs, List.mem_cons, List.mem_map]; exact Or.inr ⟨v, hv, rfl⟩, ht⟩
    · cases h
  · rcases h with ⟨v, hv, ht⟩ | h
    · cases hv
    · refine ⟨some (.inr e), by simp [ogs], ?_⟩
      cases e with
      | zero => cases h
      | succ e => exact h
  · rcases h with ⟨v, hv, ht⟩ | h
    · exact ⟨some (.inl v), by simp only [ogs, List.mem_cons, List.mem_map]; exact Or.inr (Or.inr ⟨v, hv, rfl⟩), ht⟩
    · refine ⟨some (.inr p), by simp [ogs], ?_⟩
      cases p with
      | zero => cases h
      | succ e => exact h
theorem getD_of_mem {l : List Gw} {y : Gw} (h : y ∈ l) : ∃ i, i < l.length ∧ l.getD i none = y := by
  obtain ⟨i, hi, e⟩ := List.getElem_of_mem h
  exact ⟨i, hi, by rw [List.getD_eq_getElem?_getD, List.getElem?_eq_getElem hi, e]; rfl⟩
theorem lenQ_usum : ∀ (q : List Nat) (hp h1 : Nat → Option Ob), q.Nodup → (∀ s ∈ q, s < 168 ∧ h1 s = hp s) → (∀ s, s < 168 → s ∉ q → h1 s = none) → lenQ hp q = usum h1 168
  | [], hp, h1, _, _, h => by
    have : ∀ n, n ≤ 168 → usum h1 n = 0 := by
      intro n
      induction n with
      | zero => intro _; rfl
      | succ n ih =>
        intro hn
        show usum h1 n + olo h1 n = 0
        rw [ih (by omega)]
        unfold olo
        rw [h n (by omega) (by simp)]
        rfl
    exact (this 168 (Nat.le_refl _)).symm
  | t :: q, hp, h1, hd, ha, hb => by
    rw [List.nodup_cons] at hd
    show olo hp t + lenQ hp q = _
    rw [usum_upd 168 t (ha t (by simp)).1, lenQ_usum q hp (fun x => if x = t then none else h1 x) hd.2 (fun s hs => ⟨(ha s (by simp [hs])).1, ?_⟩) (fun s hs hn => ?_)]
    · have : olo h1 t = olo hp t := by unfold olo; rw [(ha t (by simp)).2]
      rw [this]
    · show (if s = t then none else h1 s) = hp s
      rw [if_neg (fun e : s = t => hd.1 (by rw [← e]; exact hs))]; exact (ha s (by simp [hs])).2
    · show (if s = t then none else h1 s) = none
      by_cases e : s = t
      · rw [if_pos e]
      · rw [if_neg e]; exact hb s hs (by simp [e, hn])
/-- a value whose object is live stays a value -/
theorem VV_live {K : Nat → Nat → Prop} {C : Nat → Prop} {hp : Nat → Option Ob} {R : Nat → Prop} {v : Va} (h : VV K C hp v) (hl : ∀ s, vref v = some s → Live hp R s) : VV K C (gcH hp R) v := by
  rcases v with _ | v | v | ⟨v, v2⟩ | v | v | v
  · trivial
  · exact h
  · exact h
  · exact h
  · obtain ⟨h1, a, d, h2⟩ := h
    exact ⟨h1, a, d, by rw [gcH_y (hl v rfl)]; exact h2⟩
  · obtain ⟨h1, l, h2⟩ := h
    exact ⟨h1, l, by rw [gcH_y (hl v rfl)]; exact h2⟩
  · obtain ⟨h1, r, e, h2⟩ := h
    exact ⟨h1, r, e, by rw [gcH_y (hl v rfl)]; exact h2⟩
theorem EnvR_live {rc : Nat → Va × Va} {C : Nat → Prop} {hp : Nat → Option Ob} {R : Nat → Prop} : ∀ (sc : List (List Nat)) (e : Nat), (∀ s, eref e = some s → Live hp R s) → EnvR rc C hp e sc → EnvR rc C (gcH hp R) e sc
  | [], e, _, h => h
  | ps :: sc, e, hl, h => by
    obtain ⟨s, p, q, l, h1, h2, h3, h4, h5, h6⟩ := h
    subst h1
    have hs := hl s rfl
    exact ⟨s, p, q, l, rfl, h2, by rw [gcH_y hs]; exact h3, h4, h5, EnvR_live sc p (fun x hx => Live_cl hs h3 (Or.inr hx)) h6⟩
/-- the frame e is there -/
def eok (hp : Nat → Option Ob) : Nat → Prop
  | 0 => True
  | s + 1 => s < 168 ∧ ∃ p q l, hp s = some (ofrm p q l)
theorem EnvR_ok {rc : Nat → Va × Va} {C : Nat → Prop} {hp : Nat → Option Ob} {sc : List (List Nat)} {e : Nat} (h : EnvR rc C hp e sc) : eok hp e := by
  cases sc with
  | nil => rw [show e = 0 from h]; trivial
  | cons ps sc =>
    obtain ⟨s, p, q, l, h1, h2, h3, -⟩ := h
    subst h1
    exact ⟨h2, p, q, l, h3⟩
theorem VV_ref {K : Nat → Nat → Prop} {C : Nat → Prop} {hp : Nat → Option Ob} {v : Va} {s : Nat} (h : VV K C hp v) (hs : vref v = some s) : s < 168 ∧ ∃ o, hp s = some o := by
  rcases v with _ | v | v | ⟨v, v2⟩ | v | v | v
  · cases hs
  · cases hs
  · cases hs
  · cases hs
  · cases hs; obtain ⟨h1, a, d, h2⟩ := h; exact ⟨h1, _, h2⟩
  · cases hs; obtain ⟨h1, l, h2⟩ := h; exact ⟨h1, _, h2⟩
  · cases hs; obtain ⟨h1, r, e, h2⟩ := h; exact ⟨h1, _, h2⟩
theorem VV_gok {K : Nat → Nat → Prop} {C : Nat → Prop} {hp : Nat → Option Ob} {v : Va} (h : VV K C hp v) : gok hp (some (.inl v)) := by
  rcases v with _ | v | v | ⟨v, v2⟩ | v | v | v
  · trivial
  · have h : -32768 ≤ v ∧ v ≤ 32767 := h
    exact ⟨by omega, by omega⟩
  · exact h
  · exact h.2.2.2
  · exact h
  · exact h
  · exact h
theorem eok_gok {hp : Nat → Option Ob} {e : Nat} (h : eok hp e) : gok hp (some (.inr e)) := by
  cases e with
  | zero => trivial
  | succ e => exact h
theorem gref_e {e : Nat} : gref (some (.inr e)) = eref e := by cases e <;> rfl
