-- ===== which cells of a form are code =====
section CD
variable {rc : Nat → Va × Va} {sy : Nat} {nam : Nat → List Nat}
/-- S: the cells of the form that are code: all but those of quoted parts -/
def CdE (rc : Nat → Va × Va) (sy : Nat) (nam : Nat → List Nat) (S : Nat → Prop) : Nat → Va → Nat → Nat → Prop
  | 0, v, lo, hi => atm sy v ∧ lo = hi
  | d + 1, v, lo, hi => (atm sy v ∧ lo = hi) ∨ (∃ i l, Lst rc v (i :: l) ∧ Inc rc (RdV rc sy d) (i :: l) lo hi ∧ (∀ x ∈ i :: l, S x) ∧ (opV nam (rc i).1 = 1 → ∀ x, lo ≤ x → x < hi → x ∉ i :: l → ¬ S x) ∧ (opV nam (rc i).1 ≠ 1 → Inc rc (CdE rc sy nam S d) (i :: l) lo hi)) ∨ (∃ n c, v = vrd (n + 1) c ∧ (rc (n + 1)).1 = vsym 2 ∧ Lst rc (rc (n + 1)).2 [n] ∧ RdV rc sy d (rc n).1 lo n ∧ n + 2 = hi ∧ S (n + 1) ∧ S n ∧ ∀ x, lo ≤ x → x < n → ¬ S x)
theorem CdE_le {S : Nat → Prop} : ∀ (d : Nat) (v : Va) (lo hi : Nat), CdE rc sy nam S d v lo hi → lo ≤ hi
  | 0, v, lo, hi, h => Nat.le_of_eq h.2
  | d + 1, v, lo, hi, h => by
    rcases h with h | ⟨i, l, h1, h2, -⟩ | ⟨n, c, h1, h2, h3, h4, h5, -⟩
    · exact Nat.le_of_eq h.2
    · exact (Inc_in (RdV_le d) _ lo hi h2).1
    · have := RdV_le d _ _ _ h4; omega
theorem CdE_congr {S S1 : Nat → Prop} : ∀ (d : Nat) (v : Va) (lo hi : Nat), (∀ x, lo ≤ x → x < hi → (S1 x ↔ S x)) → CdE rc sy nam S d v lo hi → CdE rc sy nam S1 d v lo hi
  | 0, v, lo, hi, _, h => h
  | d + 1, v, lo, hi, hS, h => by
    rcases h with h | ⟨i, l, h1, h2, h3, h4, h5⟩ | ⟨n, c, h1, h2, h3, h4, h5, h6, h7, h8⟩
    · exact Or.inl h
    · have hin := (Inc_in (RdV_le d) _ lo hi h2).2
      refine Or.inr (Or.inl ⟨i, l, h1, h2, fun x hx => (hS x (hin x hx).1 (hin x hx).2).mpr (h3 x hx), fun e x a b hx hs => h4 e x a b hx ((hS x a b).mp hs), fun e => ?_⟩)
      exact Inc_congr (CdE_le d) hi lo (fun v x y hx hy hv => CdE_congr d v x y (fun z a b => hS z (by omega) (by omega)) hv) (i :: l) lo hi (Nat.le_refl _) (Nat.le_refl _) (fun _ _ => rfl) (h5 e)
    · have hle := RdV_le d _ _ _ h4
      exact Or.inr (Or.inr ⟨n, c, h1, h2, h3, h4, h5, (hS _ (by omega) (by omega)).mpr h6, (hS _ (by omega) (by omega)).mpr h7, fun x a b hs => h8 x a b ((hS x a (by omega)).mp hs)⟩)
theorem Inc_cd {d : Nat} (hx : ∀ v lo hi, RdV rc sy d v lo hi → ∃ S, CdE rc sy nam S d v lo hi) : ∀ (l : List Nat) (lo hi : Nat), Inc rc (RdV rc sy d) l lo hi → ∃ S : Nat → Prop, (∀ x ∈ l, S x) ∧ Inc rc (CdE rc sy nam S d) l lo hi
  | [], lo, hi, h => ⟨fun _ => True, fun x hx => (by cases hx), h⟩
  | x :: l, lo, hi, h => by
    obtain ⟨S1, a1⟩ := hx _ _ _ h.1
    obtain ⟨S2, b1, b2⟩ := Inc_cd hx l (x + 1) hi h.2
    have hin := Inc_in (RdV_le d) l (x + 1) hi h.2
    refine ⟨fun y => (y < x ∧ S1 y) ∨ y = x ∨ (x < y ∧ S2 y), fun y hy => ?_, CdE_congr d _ _ _ (fun z a b => ?_) a1, ?_⟩
    · rcases List.mem_cons.mp hy with e | e
      · exact Or.inr (Or.inl e)
      · exact Or.inr (Or.inr ⟨by have := hin.2 y e; omega, b1 y e⟩)
    · exact ⟨fun c => by rcases c with c | c | c <;> first | exact c.2 | omega, fun c => Or.inl ⟨b, c⟩⟩
    · exact Inc_congr (CdE_le d) hi (x + 1) (fun v p q hp hq hv => CdE_congr d v p q (fun z a b => ⟨fun c => by rcases c with c | c | c <;> first | exact c.2 | omega, fun c => Or.inr (Or.inr ⟨by omega, c⟩)⟩) hv) l (x + 1) hi (Nat.le_refl _) (Nat.le_refl _) (fun _ _ => rfl) b2
theorem CdE_ex : ∀ (d : Nat) (v : Va) (lo hi : Nat), RdV rc sy d v lo hi → ∃ S, CdE rc sy nam S d v lo hi
  | 0, v, lo, hi, h => ⟨fun _ => True, h⟩
  | d + 1, v, lo, hi, h => by
    rcases h with h | ⟨l, h1, h2, h3⟩ | ⟨n, c, h1, h2, h3, h4, h5⟩
    · exact ⟨fun _ => True, Or.inl h⟩
    · cases l with
      | nil => exact absurd rfl h1
      | cons i l =>
        by_cases e : opV nam (rc i).1 = 1
        · exact ⟨fun x => x ∈ i :: l, Or.inr (Or.inl ⟨i, l, h2, h3, fun x hx => hx, fun _ x _ _ hx => hx, fun c => absurd e c⟩)⟩
        · obtain ⟨S, a, b⟩ := Inc_cd (nam := nam) (CdE_ex d) (i :: l) lo hi h3
          exact ⟨S, Or.inr (Or.inl ⟨i, l, h2, h3, a, fun c => absurd c e, fun _ => b⟩)⟩
    · exact ⟨fun x => x = n + 1 ∨ x = n, Or.inr (Or.inr ⟨n, c, h1, h2, h3, h4, h5, Or.inl rfl, Or.inr rfl, fun x a b hx => by omega⟩)⟩
/-- what is quoted holds nothing but what is quoted -/
def qV (S : Nat → Prop) (v : Va) : Prop := ∀ y c, v = vrd y c → ¬ S y
theorem clo_q {S : Nat → Prop} {lo hi : Nat} {v : Va} (h : cloV sy lo hi v) (hS : ∀ x, lo ≤ x → x < hi → ¬ S x) : qV S v := by
  intro y c e
  rcases h with h | ⟨x, c1, h, a, b⟩
  · rw [e] at h; exact h.elim
  · rw [e] at h; cases h; exact hS y a b
theorem Inc_q {S : Nat → Prop} {F : Va → Nat → Nat → Prop} (hF : ∀ v a b, F v a b → a ≤ b) (hq : ∀ v lo hi, F v lo hi → ∀ x, lo ≤ x → x < hi → ¬ S x → qV S (rc x).1 ∧ qV S (rc x).2) : ∀ (l : List Nat) (lo hi : Nat), (∀ x ∈ l, S x) → Inc rc F l lo hi → ∀ x, lo ≤ x → x < hi → ¬ S x → qV S (rc x).1 ∧ qV S (rc x).2
  | [], lo, hi, _, h, x, a, b, _ => by have h : lo = hi := h; omega
  | y :: l, lo, hi, hS, h, x, a, b, hx => by
    have hle := hF _ _ _ h.1
    rcases Nat.lt_trichotomy x y with e | e | e
    · exact hq _ _ _ h.1 x a e hx
    · subst e; exact absurd (hS x (by simp)) hx
    · exact Inc_q hF hq l (y + 1) hi (fun z hz => hS z (by simp [hz])) h.2 x e b hx
theorem CdE_q {S : Nat → Prop} (hsy : 3 ≤ sy) : ∀ (d : Nat) (v : Va) (lo hi : Nat), CdE rc sy nam S d v lo hi → ∀ x, lo ≤ x → x < hi → ¬ S x → qV S (rc x).1 ∧ qV S (rc x).2
  | 0, v, lo, hi, h, x, a, b, _ => by have := h.2; omega
  | d + 1, v, lo, hi, h, x, a, b, hx => by
    rcases h with h | ⟨i, l, h1, h2, h3, h4, h5⟩ | ⟨n, c, h1, h2, h3, h4, h5, h6, h7, h8⟩
    · have := h.2; omega
    · by_cases e : opV nam (rc i).1 = 1
      · have key : ∀ (l0 : List Nat) (lo0 : Nat), lo ≤ lo0 → (∀ y ∈ l0, y ∈ i :: l) → (∀ y, lo0 ≤ y → y < hi → y ∉ l0 → y ∉ i :: l) → Inc rc (RdV rc sy d) l0 lo0 hi → ∀ x, lo0 ≤ x → x < hi → ¬ S x → qV S (rc x).1 ∧ qV S (rc x).2 := by
          intro l0
          induction l0 with
          | nil => intro lo0 _ _ _ hI x a b _; have hI : lo0 = hi := hI; omega
          | cons y l0 ih =>
            intro lo0 hl hm hn hI x a b hx
            have hle := RdV_le d _ _ _ hI.1
            have hin := Inc_in (RdV_le d) l0 (y + 1) hi hI.2
            rcases Nat.lt_trichotomy x y with e1 | e1 | e1
            · obtain ⟨c1, c2⟩ := RdV_clo hsy d _ _ _ hI.1
              have hS : ∀ z, lo0 ≤ z → z < y → ¬ S z := fun z p q => h4 e z (by omega) (by omega) (hn z p (by omega) (fun hz => by
                rcases List.mem_cons.mp hz with hz | hz
                · omega
                · have := hin.2 z hz; omega))
              exact ⟨clo_q (c1 x a e1).1 hS, clo_q (c1 x a e1).2 hS⟩
            · subst e1; exact absurd (h3 x (hm x (by simp))) hx
            · refine ih (y + 1) (by omega) (fun z hz => hm z (by simp [hz])) (fun z p q hz => hn z (by omega) q (fun c => ?_)) hI.2 x e1 b hx
              rcases List.mem_cons.mp c with c | c
              · omega
              · exact hz c
        exact key (i :: l) lo (Nat.le_refl _) (fun y hy => hy) (fun y _ _ hy => hy) h2 x a b hx
      · exact Inc_q (CdE_le d) (CdE_q hsy d) (i :: l) lo hi h3 (h5 e) x a b hx
    · have hle := RdV_le d _ _ _ h4
      have hxn : x < n := by
        rcases Nat.lt_trichotomy x n with e | e | e
        · exact e
        · subst e; exact absurd h7 hx
        · have : x = n + 1 := by omega
          subst this; exact absurd h6 hx
      obtain ⟨c1, c2⟩ := RdV_clo hsy d _ _ _ h4
      exact ⟨clo_q (c1 x a hxn).1 h8, clo_q (c1 x a hxn).2 h8⟩
end CD
