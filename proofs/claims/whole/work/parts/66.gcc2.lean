section GC
variable {N z tg b u : Nat} {hp : Nat → Option Ob} {φ ent : Nat → Nat} {P : Nat → Prop}
/-- where a moved object lies -/
def psi (tg : Nat) (hp : Nat → Option Ob) (q : List Nat) (s : Nat) : Nat := tg + pos hp q s
/-- what a collection starts from -/
def GSt (z tg b u : Nat) (hp : Nat → Option Ob) (φ ent : Nat → Nat) (P : Nat → Prop) : Prop :=
  40 ≤ z ∧ z ≤ 167 ∧ ((b = 2048 ∧ tg = 2048 + z) ∨ (b = 2048 + z ∧ tg = 2048)) ∧ usum hp 168 = u ∧ u ≤ z ∧
  (∀ s o, hp s = some o → s < 168 ∧ b ≤ φ s ∧ φ s + olen o ≤ b + u) ∧ (∀ s o s1 o1, hp s = some o → hp s1 = some o1 → s ≠ s1 → φ s + olen o ≤ φ s1 ∨ φ s1 + olen o1 ≤ φ s) ∧
  (∀ s o, hp s = some o → ∀ y ∈ ogs ent o, gok hp y) ∧ (∀ s o, P s → hp s = some o → ∀ y ∈ ogs ent o, ∀ t, gref y = some t → P t) ∧ (∀ s, s < 168 → φ s < 10000)
/-- q has been moved, its first k words looked through -/
def MG (z tg : Nat) (hp : Nat → Option Ob) (φ ent : Nat → Nat) (P : Nat → Prop) (h : St) (q : List Nat) (k : Nat) : Prop :=
  h 0 0 = nI z ∧ h 0 6 = nI tg ∧ h 0 7 = nI (lenQ hp q) ∧ q.Nodup ∧ (∀ s ∈ q, s < 168 ∧ P s ∧ hp s ≠ none) ∧
  (∀ s o, hp s = some o → s ∉ q → ∀ i, i < olen o → h 1 (φ s + i) = gw φ ((ogs ent o).getD i none)) ∧ (∀ s ∈ q, h 1 (φ s) = wd 8 (psi tg hp q s)) ∧
  (∀ s o, s ∈ q → hp s = some o → ∀ i, i < olen o → (pos hp q s + i < k → (∀ t, gref ((ogs ent o).getD i none) = some t → t ∈ q) ∧ h 1 (psi tg hp q s + i) = gw (psi tg hp q) ((ogs ent o).getD i none)) ∧ (k ≤ pos hp q s + i → h 1 (psi tg hp q s + i) = gw φ ((ogs ent o).getD i none)))
/-- what moving leaves as it was -/
def GFr (h h1 : St) : Prop := (∀ c, c ≠ 0 → c ≠ 1 → h1 c = h c) ∧ (∀ i, i ≠ 7 → h1 0 i = h 0 i) ∧ ∀ a, a < 2048 → h1 1 a = h 1 a
theorem c_copy {t from1 to len : Nat} {m0 : Nat → Int32} {post : Int32 → St → Prop} (hN : from1 + len ≤ N) (hN1 : to + len ≤ N) (hN2 : N < 100000) (hl : 0 < len) (hd : from1 + len ≤ to ∨ to + len ≤ from1) (ht : t < 16) (h0 : St)
    (k : ∀ h1 : St, (∀ c, c ≠ 0 → c ≠ 1 → h1 c = h0 c) → (∀ i, i ≠ 7 → h1 0 i = h0 0 i) → h1 0 7 = h0 0 7 + nI len → (∀ a, h1 1 a = if a = from1 then wd 8 to else if to ≤ a ∧ a < to + len then m0 (from1 + (a - to)) else m0 a) → post (wd t to) h1) :
    ∀ (n i : Nat) (h : St), len - i < n → i ≤ len → (∀ c, c ≠ 1 → h c = h0 c) → (∀ a, h 1 a = if to ≤ a ∧ a < to + i then m0 (from1 + (a - to)) else m0 a) → V_X2_move_73 N post n (nI t) (nI from1) (nI to) (nI len) (nI i) h
  | 0, i, h => fun h1 => absurd h1 (by omega)
  | n + 1, i, h => by
    intro h1 h2 h3 h4
    unfold V_X2_move_73
    refine ⟨fun c => ?_, fun c => ?_⟩
    · have hi : i = len := by have := (nI_leI (a := len) (b := i) (by omega) (by omega)).mp c; omega
      subst hi
      rw [show (8 : Int32) = nI 8 from rfl, show (nI to) = iI (to : Int) from (iI_nat to).symm]
      refine v_of (by decide) (v_put (by omega) (by omega) (eqI ?_))
      refine v_of ht (k _ (fun c h5 h6 => ?_) (fun x h5 => ?_) ?_ (fun a => ?_))
      · rw [usZ h5, upB _ _ _ h6, h3 c h6]
      · rw [us0, if_neg h5, upB _ _ _ (by decide), h3 0 (by decide)]
      · rw [us0, if_pos rfl, upB _ _ _ (by decide), h3 0 (by decide)]
      · rw [usZ (by decide), upA]
        by_cases e : a = from1
        · subst e; rw [updE, if_pos rfl]
        · rw [updN _ _ e, if_neg e]; exact h4 a
    · have hi : i < len := by
        rcases Nat.lt_or_ge i len with z | z
        · exact z
        · exact absurd ((nI_leI (a := len) (b := i) (by omega) (by omega)).mpr z) c
      rw [nI_add, nI_add]
      refine v_hat (by omega) (by omega) (v_put (by omega) (by omega) (eqI ?_))
      rw [nI_1]
      refine c_copy hN hN1 hN2 hl hd ht h0 k n (i + 1) _ (by omega) (by omega) (fun c h5 => ?_) (fun a => ?_)
      · rw [upB _ _ _ h5, h3 c h5]
      · rw [upA]
        by_cases e : a = to + i
        · subst e
          rw [updE, if_pos (by omega), h4, if_neg (by omega), show from1 + (to + i - to) = from1 + i by omega]
        · rw [updN _ _ e, h4]
          by_cases e2 : to ≤ a ∧ a < to + i
          · rw [if_pos e2, if_pos (by omega)]
          · rw [if_neg e2, if_neg (by omega)]
end GC
