-- ===== the class's collection =====
/-- a word that a collection may meet: nothing, a value, a frame -/
abbrev Gw : Type := Option (Va ⊕ Nat)
def gw (φ : Nat → Nat) : Gw → Int32
  | none => 0
  | some (.inl v) => cw φ v
  | some (.inr e) => fw φ e
def vref : Va → Option Nat
  | some (.inr (.inr (.inr (.inl s)))) => some s
  | some (.inr (.inr (.inr (.inr (.inl s))))) => some s
  | some (.inr (.inr (.inr (.inr (.inr s))))) => some s
  | _ => none
def gref : Gw → Option Nat
  | some (.inl v) => vref v
  | some (.inr (s + 1)) => some s
  | _ => none
def gok (hp : Nat → Option Ob) : Gw → Prop
  | none => True
  | some (.inl none) => True
  | some (.inl (some (.inl n))) => -100000 ≤ n ∧ n ≤ 100000
  | some (.inl (some (.inr (.inl s)))) => s < 40
  | some (.inl (some (.inr (.inr (.inl (_, c)))))) => c < 1024
  | some (.inl (some (.inr (.inr (.inr (.inl s)))))) => s < 168 ∧ ∃ a d, hp s = some (ocel a d)
  | some (.inl (some (.inr (.inr (.inr (.inr (.inl s))))))) => s < 168 ∧ ∃ l, hp s = some (ovec l)
  | some (.inl (some (.inr (.inr (.inr (.inr (.inr s))))))) => s < 168 ∧ ∃ r e, hp s = some (oclo r e)
  | some (.inr 0) => True
  | some (.inr (s + 1)) => s < 168 ∧ ∃ p q l, hp s = some (ofrm p q l)
def ogs (ent : Nat → Nat) : Ob → List Gw
  | .inl (a, d) => [some (.inl a), some (.inl d)]
  | .inr (.inl l) => some (.inl (vnum l.length)) :: l.map (fun v => some (.inl v))
  | .inr (.inr (.inl (r, e))) => [some (.inl (vnum (ent r))), some (.inr e)]
  | .inr (.inr (.inr (p, _, l))) => some (.inr p) :: some (.inl (vnum l.length)) :: l.map (fun v => some (.inl v))
theorem ogs_w (φ ent : Nat → Nat) (o : Ob) : ows φ ent o = (ogs ent o).map (gw φ) := by
  rcases o with ⟨a, d⟩ | l | ⟨r, e⟩ | ⟨p, q, l⟩
  · rfl
  · simp [ows, ogs, gw, cw, vkd, hld]
  · rfl
  · simp [ows, ogs, gw, cw, vkd, hld]
theorem ogs_len (ent : Nat → Nat) (o : Ob) : (ogs ent o).length = olen o := by rcases o with ⟨a, d⟩ | l | ⟨r, e⟩ | ⟨p, q, l⟩ <;> simp [ogs, olen]
def olo (hp : Nat → Option Ob) (s : Nat) : Nat := match hp s with | some o => olen o | none => 0
def lenQ (hp : Nat → Option Ob) : List Nat → Nat
  | [] => 0
  | t :: q => olo hp t + lenQ hp q
def pos (hp : Nat → Option Ob) : List Nat → Nat → Nat
  | [], _ => 0
  | t :: q, s => if t = s then 0 else olo hp t + pos hp q s
theorem lenQ_app (hp : Nat → Option Ob) : ∀ q r : List Nat, lenQ hp (q ++ r) = lenQ hp q + lenQ hp r
  | [], r => by simp [lenQ]
  | t :: q, r => by show olo hp t + lenQ hp (q ++ r) = _; rw [lenQ_app hp q r]; show _ = olo hp t + lenQ hp q + _; omega
theorem pos_app {hp : Nat → Option Ob} {s : Nat} : ∀ {q : List Nat} (r : List Nat), s ∈ q → pos hp (q ++ r) s = pos hp q s
  | [], r, h => by cases h
  | t :: q, r, h => by
    show (if t = s then 0 else olo hp t + pos hp (q ++ r) s) = if t = s then 0 else olo hp t + pos hp q s
    by_cases e : t = s
    · rw [if_pos e, if_pos e]
    · rw [if_neg e, if_neg e]
      rcases List.mem_cons.mp h with h | h
      · exact absurd h.symm e
      · rw [pos_app r h]
theorem pos_new {hp : Nat → Option Ob} {s : Nat} : ∀ {q : List Nat}, s ∉ q → pos hp (q ++ [s]) s = lenQ hp q
  | [], _ => by show (if s = s then 0 else _) = 0; rw [if_pos rfl]
  | t :: q, h => by
    show (if t = s then 0 else olo hp t + pos hp (q ++ [s]) s) = olo hp t + lenQ hp q
    rw [if_neg (fun e => h (by rw [e]; simp)), pos_new (fun e => h (by simp [e]))]
theorem pos_le {hp : Nat → Option Ob} {s : Nat} : ∀ {q : List Nat}, s ∈ q → pos hp q s + olo hp s ≤ lenQ hp q
  | [], h => by cases h
  | t :: q, h => by
    show (if t = s then 0 else olo hp t + pos hp q s) + olo hp s ≤ olo hp t + lenQ hp q
    by_cases e : t = s
    · rw [if_pos e, e]; omega
    · rw [if_neg e]
      rcases List.mem_cons.mp h with h | h
      · exact absurd h.symm e
      · have := pos_le (hp := hp) h; omega
theorem pos_dis {hp : Nat → Option Ob} {s t : Nat} : ∀ {q : List Nat}, s ∈ q → t ∈ q → s ≠ t → pos hp q s + olo hp s ≤ pos hp q t ∨ pos hp q t + olo hp t ≤ pos hp q s
  | [], h, _, _ => by cases h
  | a :: q, h1, h2, hne => by
    show (if a = s then 0 else olo hp a + pos hp q s) + olo hp s ≤ (if a = t then 0 else olo hp a + pos hp q t) ∨ (if a = t then 0 else olo hp a + pos hp q t) + olo hp t ≤ (if a = s then 0 else olo hp a + pos hp q s)
    by_cases e : a = s
    · rw [if_pos e, if_neg (fun z => hne (e.symm.trans z)), e]; left; omega
    · by_cases e2 : a = t
      · rw [if_neg e, if_pos e2, e2]; right; omega
      · rw [if_neg e, if_neg e2]
        rcases List.mem_cons.mp h1 with h | h
        · exact absurd h.symm e
        · rcases List.mem_cons.mp h2 with h' | h'
          · exact absurd h'.symm e2
          · have := pos_dis (hp := hp) h h' hne; omega
/-- slots that are apart take no more words than all -/
theorem usum_upd {hp : Nat → Option Ob} : ∀ (n : Nat) (s : Nat), s < n → usum hp n = olo hp s + usum (fun x => if x = s then none else hp x) n
  | 0, s, h => absurd h (Nat.not_lt_zero _)
  | n + 1, s, h => by
    show usum hp n + olo hp n = olo hp s + (usum (fun x => if x = s then none else hp x) n + olo (fun x => if x = s then none else hp x) n)
    by_cases e : s = n
    · subst e
      have h1 : olo (fun x => if x = s then none else hp x) s = 0 := by show (match (if s = s then none else hp s) with | some o => olen o | none => 0) = 0; rw [if_pos rfl]
      have h2 : ∀ m, m ≤ s → usum (fun x => if x = s then none else hp x) m = usum hp m := by
        intro m
        induction m with
        | zero => intro _; rfl
        | succ m ih =>
          intro hm
          show usum (fun x => if x = s then none else hp x) m + olo (fun x => if x = s then none else hp x) m = usum hp m + olo hp m
          rw [ih (by omega)]
          have : olo (fun x => if x = s then none else hp x) m = olo hp m := by show (match (if m = s then none else hp m) with | some o => olen o | none => 0) = _; rw [if_neg (by omega)]; rfl
          rw [this]
      rw [h1, h2 s (Nat.le_refl _)]; omega
    · have h1 : olo (fun x => if x = s then none else hp x) n = olo hp n := by show (match (if n = s then none else hp n) with | some o => olen o | none => 0) = _; rw [if_neg (by omega)]; rfl
      rw [h1, usum_upd n s (by omega)]; omega
theorem lenQ_le : ∀ (q : List Nat) (hp : Nat → Option Ob), q.Nodup → (∀ s ∈ q, s < 168) → lenQ hp q ≤ usum hp 168
  | [], _, _, _ => Nat.zero_le _
  | t :: q, hp, hd, hl => by
    rw [List.nodup_cons] at hd
    have h1 := lenQ_le q (fun x => if x = t then none else hp x) hd.2 (fun s hs => hl s (List.mem_cons_of_mem _ hs))
    have h2 : ∀ r : List Nat, t ∉ r → lenQ (fun x => if x = t then none else hp x) r = lenQ hp r := by
      intro r
      induction r with
      | nil => intro _; rfl
      | cons a r ih =>
        intro hr
        show olo _ a + lenQ _ r = olo hp a + lenQ hp r
        rw [ih (fun z => hr (List.mem_cons_of_mem _ z))]
        have : olo (fun x => if x = t then none else hp x) a = olo hp a := by show (match (if a = t then none else hp a) with | some o => olen o | none => 0) = _; rw [if_neg (fun e => hr (by rw [e]; simp))]; rfl
        rw [this]
    show olo hp t + lenQ hp q ≤ _
    rw [usum_upd 168 t (hl t (by simp)), ← h2 q hd.1]
    omega
theorem gw_tag {hp : Nat → Option Ob} {φ : Nat → Nat} {x : Gw} (h : gok hp x) (hφ : ∀ s o, hp s = some o → φ s < 10000) : ∃ (t : Nat) (a : Int), t < 8 ∧ -134217728 ≤ a ∧ a < 134217728 ∧ gw φ x = wd t a ∧ (gref x = none → t < 4 ∨ a < 2048) ∧ ∀ s, gref x = some s → 4 ≤ t ∧ a = φ s ∧ s < 168 ∧ (∀ ψ, gw ψ x = wd t (ψ s)) ∧ ∃ o, hp s = some o ∧ ((t = 5 ∧ ∃ l, o = ovec l) ∨ (t = 7 ∧ ∃ p q l, o = ofrm p q l) ∨ (t ≠ 5 ∧ t ≠ 7 ∧ olen o = 2)) := by
  rcases x with _ | (_ | n | s | ⟨i, c⟩ | s | s | s) | (_ | s)
  · exact ⟨0, 0, by decide, by decide, by decide, rfl, fun _ => Or.inl (by decide), fun s h => by cases h⟩
  · exact ⟨1, 0, by decide, by decide, by decide, rfl, fun _ => Or.inl (by decide), fun s h => by cases h⟩
  · have h : -100000 ≤ n ∧ n ≤ 100000 := h
    exact ⟨2, n, by decide, by omega, by omega, rfl, fun _ => Or.inl (by decide), fun s h => by cases h⟩
  · have h : s < 40 := h
    exact ⟨3, s, by decide, by omega, by omega, rfl, fun _ => Or.inl (by decide), fun s h => by cases h⟩
  · have h : c < 1024 := h
    exact ⟨4, (2 * c : Nat), by decide, by omega, by omega, rfl, fun _ => Or.inr (by omega), fun s h => by cases h⟩
  · obtain ⟨h1, a, d, h2⟩ := h
    have := hφ s _ h2
    exact ⟨4, φ s, by decide, by omega, by omega, rfl, fun c => (by cases c), fun t ht => by cases ht; exact ⟨by decide, rfl, h1, fun _ => rfl, _, h2, Or.inr (Or.inr ⟨by decide, by decide, rfl⟩)⟩⟩
  · obtain ⟨h1, l, h2⟩ := h
    have := hφ s _ h2
    exact ⟨5, φ s, by decide, by omega, by omega, rfl, fun c => (by cases c), fun t ht => by cases ht; exact ⟨by decide, rfl, h1, fun _ => rfl, _, h2, Or.inl ⟨rfl, l, rfl⟩⟩⟩
  · obtain ⟨h1, r, e, h2⟩ := h
    have := hφ s _ h2
    exact ⟨6, φ s, by decide, by omega, by omega, rfl, fun c => (by cases c), fun t ht => by cases ht; exact ⟨by decide, rfl, h1, fun _ => rfl, _, h2, Or.inr (Or.inr ⟨by decide, by decide, rfl⟩)⟩⟩
  · exact ⟨1, 0, by decide, by decide, by decide, rfl, fun _ => Or.inl (by decide), fun s h => by cases h⟩
  · obtain ⟨h1, p, q, l, h2⟩ := h
    have := hφ s _ h2
    exact ⟨7, φ s, by decide, by omega, by omega, rfl, fun c => (by cases c), fun t ht => by cases ht; exact ⟨by decide, rfl, h1, fun _ => rfl, _, h2, Or.inr (Or.inl ⟨rfl, p, q, l, rfl⟩)⟩⟩
theorem gw_none {x : Gw} (h : gref x = none) (φ ψ : Nat → Nat) : gw φ x = gw ψ x := by
  rcases x with _ | (_ | n | s | ⟨i, c⟩ | s | s | s) | (_ | s) <;> first | rfl | cases h
theorem gw_ext {x : Gw} {φ ψ : Nat → Nat} (h : ∀ s, gref x = some s → φ s = ψ s) : gw φ x = gw ψ x := by
  rcases x with _ | (_ | n | s | ⟨i, c⟩ | s | s | s) | (_ | s) <;> first | rfl | (have := h s rfl; simp [gw, cw, fw, hld, vkd, this])
