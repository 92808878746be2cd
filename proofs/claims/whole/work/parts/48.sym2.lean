theorem mxI {g : St} {e : Nat} {P : St → Prop} (h : P g) : ∀ g5 : St, g5 = mx g e (g e) → P g5 := fun g5 q => by rw [q, mx_self]; exact h
theorem up_mx (g : St) (e i : Nat) (x : Int32) (r : Nat → Int32) : up (mx g e r) e i x = mx g e (upd r i x) := by
  funext b
  show cond (Nat.beq b e) (upd (mx g e r e) i x) (cond (Nat.beq b e) r (g b)) = cond (Nat.beq b e) (upd r i x) (g b)
  have : mx g e r e = r := by
    show cond (Nat.beq e e) r (g e) = r
    rw [Nat.beq_refl]; rfl
  rw [this]
  cases Nat.beq b e <;> rfl
/-- a new symbol, of that name -/
def addS (g : St) (sy : Nat) (l : List Nat) (r : Nat → Int32) : St := us (up (up (mx g 1 r) 2 sy (nI l.length)) 3 sy (nI (opx l))) 0 (nI (sy + 1))
theorem c_addL {L sy : Nat} {l : List Nat} {g0 : St} {post : Int32 → St → Prop} (hL : l.length ≤ L) (hL2 : L < 2 ^ 31) (hl5 : l.length ≤ 5) (hl : nmOK l) (hs : sy < 40) (hg : g0 0 0 = nI sy) (hf : ∀ t, t < l.length → g0 5 t = nI (l.getD t 0)) (k : ∀ r, (∀ t, t < l.length → r (5 * sy + t) = nI (l.getD t 0)) → (∀ t, t < 5 * sy → r t = g0 1 t) → post (nI sy) (addS g0 sy l r)) :
    ∀ (n t : Nat) (r : Nat → Int32), 50 - t < n → t ≤ l.length → (∀ s, s < t → r (5 * sy + s) = nI (l.getD s 0)) → (∀ s, s < 5 * sy → r s = g0 1 s) → V_X9_add_21 L post n (nI l.length) (nI (5 * sy)) (nI t) (mx g0 1 r)
  | 0, t, r => fun h => absurd h (by omega)
  | n + 1, t, r => by
    intro h1 h2 h3 h4
    have fin : t = l.length → V_X9_add_59 L post n (nI l.length) (mx g0 1 r) := by
      intro e
      unfold V_X9_add_59
      have e0 : (mx g0 1 r) 0 0 = nI sy := hg
      rw [e0, nI_clamp (by omega)]
      refine ⟨vp_in_nI hs (by decide), eqI ?_⟩
      refine c_indexOf hL hL2 (by omega) hl5 hl hf ?_
      have e1 : (up (mx g0 1 r) 2 sy (nI l.length)) 0 0 = nI sy := hg
      rw [e1, nI_clamp (by omega)]
      refine ⟨vp_in_nI hs (by decide), eqI (eqI ?_)⟩
      have e2 : (up (up (mx g0 1 r) 2 sy (nI l.length)) 3 sy (nI (opx l))) 0 0 = nI sy := hg
      rw [e2, nI_1]
      have e3 : (us (up (up (mx g0 1 r) 2 sy (nI l.length)) 3 sy (nI (opx l))) 0 (nI (sy + 1))) 0 0 - 1 = nI sy := by
        show nI (sy + 1) - 1 = _
        exact nI_pred sy
      rw [e3]
      exact k r (fun s hs => h3 s (by omega)) h4
    unfold V_X9_add_21
    refine ⟨fun c => fin ?_, fun c => ?_⟩
    · have := (nI_leI (by omega) (by omega)).mp c
      omega
    · have ht : t < l.length := by
        rcases Nat.lt_or_ge t l.length with z | z
        · exact z
        · exact absurd (nI_le z (by omega)) c
      refine ⟨fun c2 => absurd c2 (nI_ge (b := 5) (by omega) (by decide)), fun _ => ⟨fun c2 => absurd c2 (nI_ge (by omega) hL2), fun _ => ⟨vp_in_nI (by omega) hL2, ?_⟩⟩⟩
      rw [nI_add, nI_clamp (by omega), nI_clamp (by omega)]
      refine ⟨vp_in_nI (by omega) (by decide), ?_⟩
      have e5 : (mx g0 1 r) 5 t = nI (l.getD t 0) := hf t ht
      have b2 : l.getD t 0 < 128 := by
        rw [List.getD_eq_getElem?_getD]
        cases e : l[t]? with
        | none => decide
        | some y => exact (hl y (List.mem_of_getElem? e)).2
      rw [e5, nar_char (by omega), up_mx]
      refine eqI (eqI ?_)
      rw [nI_1]
      refine c_addL hL hL2 hl5 hl hs hg hf k n (t + 1) _ (by omega) (by omega) (fun s hs => ?_) (fun s hs => ?_)
      · by_cases e : s = t
        · subst e; rw [updE]
        · rw [updN _ _ (by omega)]; exact h3 s (by omega)
      · rw [updN _ _ (by omega)]; exact h4 s hs
theorem c_add {L n sy : Nat} {l : List Nat} {g : St} {post : Int32 → St → Prop} (hL : l.length ≤ L) (hL2 : L < 2 ^ 31) (hn : 60 ≤ n) (hl5 : l.length ≤ 5) (hl : nmOK l) (hs : sy < 40) (hg : g 0 0 = nI sy) (hf : ∀ t, t < l.length → g 5 t = nI (l.getD t 0)) (k : ∀ r, (∀ t, t < l.length → r (5 * sy + t) = nI (l.getD t 0)) → (∀ t, t < 5 * sy → r t = g 1 t) → post (nI sy) (addS g sy l r)) : V_X9_add L n (nI l.length) g post := by
  unfold V_X9_add
  rw [hg]
  refine ⟨fun _ => eqI (eqI ?_), fun c => absurd (nI_lt (b := 40) hs (by decide)) c⟩
  have e : nI sy * 5 = nI (5 * sy) := by
    show Int32.ofNat sy * Int32.ofNat 5 = Int32.ofNat (5 * sy)
    rw [← Int32.ofNat_mul, Nat.mul_comm]
  rw [e]
  have := c_addL (g0 := g) hL hL2 hl5 hl hs hg hf k n 0 (g 1) (by omega) (Nat.zero_le _) (fun s h => absurd h (Nat.not_lt_zero _)) (fun s _ => rfl)
  rw [mx_self] at this
  exact this
/-- the first symbol of that name -/
theorem c_isNamedL {L sy s : Nat} {l : List Nat} {nm : List Nat} {g : St} {post : Int32 → St → Prop} (hL : l.length ≤ L) (hL2 : L < 2 ^ 31) (hl5 : l.length ≤ 5) (hl : nmOK l) (hm : nmOK nm) (hs : s < 40) (hlen : nm.length = l.length) (hrow : ∀ t, t < nm.length → g 1 (5 * s + t) = nI (nm.getD t 0)) (hf : ∀ t, t < l.length → g 5 t = nI (l.getD t 0)) (k1 : nm = l → post 1 g) (k0 : nm ≠ l → post 0 g) :
    ∀ (n t : Nat), 50 - t < n → t ≤ l.length → (∀ x, x < t → nm.getD x 0 = l.getD x 0) → V_X9_isNamed_14 L post n (nI s) (nI l.length) (nI t) g
  | 0, t => fun h => absurd h (by omega)
  | n + 1, t => by
    intro h1 h2 h3
    unfold V_X9_isNamed_14
    refine ⟨fun c => k1 ?_, fun c => ?_⟩
    · have := (nI_leI (by omega) (by omega)).mp c
      exact ext_getD hlen (fun x hx => h3 x (by omega))
    · have ht : t < l.length := by
        rcases Nat.lt_or_ge t l.length with z | z
        · exact z
        · exact absurd (nI_le z (by omega)) c
      refine ⟨fun c2 => absurd c2 (nI_ge (by omega) hL2), fun _ => ?_⟩
      unfold V_X9_letter
      refine eqI ?_
      have e : nI s * 5 + nI t = nI (5 * s + t) := by
        show Int32.ofNat s * Int32.ofNat 5 + Int32.ofNat t = Int32.ofNat (5 * s + t)
        rw [← Int32.ofNat_mul, ← Int32.ofNat_add, Nat.mul_comm]
      rw [e]
      have b1 : nm.getD t 0 < 128 := by
        rw [List.getD_eq_getElem?_getD]
        cases e : nm[t]? with
        | none => decide
        | some y => exact (hm y (List.mem_of_getElem? e)).2
      have b2 : l.getD t 0 < 128 := by
        rw [List.getD_eq_getElem?_getD]
        cases e : l[t]? with
        | none => decide
        | some y => exact (hl y (List.mem_of_getElem? e)).2
      refine ⟨fun c2 => absurd c2 (nI_pos (by omega)), fun _ => ⟨fun c2 => absurd c2 (nI_ge (b := 200) (by omega) (by decide)), fun _ => ⟨vp_in_nI (by omega) (by decide), ?_⟩⟩⟩
      rw [nI_clamp (by omega), hrow t (by omega)]
      refine ⟨?_, ?_⟩
      · have h9 := nar_char (x := nm.getD t 0) (by omega)
        show Value.int ((nI (nm.getD t 0)).toUInt32 % 65536).toInt32 = _
        exact congrArg Value.int h9
      · refine mxI ⟨vp_in_nI (by omega) hL2, ?_⟩
        rw [nI_clamp (by omega), hf t ht]
        refine ⟨fun c2 => eqI ?_, fun c2 => k0 (fun e => c2 (by rw [e]))⟩
        rw [nI_1]
        refine c_isNamedL (sy := sy) hL hL2 hl5 hl hm hs hlen hrow hf k1 k0 n (t + 1) (by omega) (by omega) (fun x hx => ?_)
        by_cases e : x = t
        · subst e; exact nI_inj (by omega) (by omega) c2
        · exact h3 x (by omega)
theorem c_isNamed {L n sy s : Nat} {l : List Nat} {nm : List Nat} {g : St} {post : Int32 → St → Prop} (hL : l.length ≤ L) (hL2 : L < 2 ^ 31) (hn : 60 ≤ n) (hl5 : l.length ≤ 5) (hl : nmOK l) (hm : nmOK nm) (hm5 : nm.length ≤ 5) (hs : s < sy) (hy : sy ≤ 40) (hg : g 0 0 = nI sy) (hlen : g 2 s = nI nm.length) (hrow : ∀ t, t < nm.length → g 1 (5 * s + t) = nI (nm.getD t 0)) (hf : ∀ t, t < l.length → g 5 t = nI (l.getD t 0)) (k1 : nm = l → post 1 g) (k0 : nm ≠ l → post 0 g) : V_X9_isNamed L n (nI s) (nI l.length) g post := by
  unfold V_X9_isNamed V_X9_length
  refine c_has hg hs hy ⟨fun c => absurd c (by decide), fun _ => ⟨vp_in_nI (by omega) (by decide), ?_⟩⟩
  rw [nI_clamp (by omega), hlen]
  refine mxI ⟨fun c => eqI ?_, fun c => k0 (fun e => c (by rw [e]))⟩
  exact c_isNamedL (sy := sy) hL hL2 hl5 hl hm (by omega) (nI_inj (by omega) (by omega) c) hrow hf k1 k0 n 0 (by omega) (Nat.zero_le _) (fun x hx => absurd hx (Nat.not_lt_zero _))
/-- the number of a name among the symbols: the first that has it, else none -/
def fnd (sy : Nat) (nam : Nat → List Nat) (l : List Nat) : Option Nat := (List.range sy).find? (fun s => decide (nam s = l))
theorem fnd_some {sy s : Nat} {nam : Nat → List Nat} {l : List Nat} (hs : s < sy) (h : nam s = l) (hb : ∀ m, m < s → nam m ≠ l) : fnd sy nam l = some s := by
  unfold fnd
  rw [List.find?_eq_some_iff_getElem]
  refine ⟨by simpa using h, s, by simpa using hs, by simp, fun m hm => ?_⟩
  simpa using hb m hm
theorem fnd_none {sy : Nat} {nam : Nat → List Nat} {l : List Nat} (h : ∀ m, m < sy → nam m ≠ l) : fnd sy nam l = none := by
  unfold fnd
  rw [List.find?_eq_none]
  intro m hm
  simpa using h m (List.mem_range.mp hm)
theorem fnd_lt {sy s : Nat} {nam : Nat → List Nat} {l : List Nat} (h : fnd sy nam l = some s) : s < sy ∧ nam s = l := by
  unfold fnd at h
  have h1 := List.mem_of_find?_eq_some h
  have h2 := List.find?_some h
  exact ⟨List.mem_range.mp h1, by simpa using h2⟩
theorem c_numberedL {L sy : Nat} {nam : Nat → List Nat} {l : List Nat} {g : St} {post : Int32 → St → Prop} (hL : l.length ≤ L) (hL2 : L < 2 ^ 31) (hl5 : l.length ≤ 5) (hl : nmOK l) (hy : sy ≤ 40) (hg : g 0 0 = nI sy) (hn5 : ∀ s, s < sy → (nam s).length ≤ 5 ∧ nmOK (nam s) ∧ g 2 s = nI (nam s).length ∧ ∀ t, t < (nam s).length → g 1 (5 * s + t) = nI ((nam s).getD t 0)) (hf : ∀ t, t < l.length → g 5 t = nI (l.getD t 0))
    (k1 : ∀ s, fnd sy nam l = some s → post (nI s) g) (k2 : fnd sy nam l = none → sy = 40 → post (-1) g) (k3 : fnd sy nam l = none → sy < 40 → ∀ r, (∀ t, t < l.length → r (5 * sy + t) = nI (l.getD t 0)) → (∀ t, t < 5 * sy → r t = g 1 t) → post (nI sy) (addS g sy l r)) :
    ∀ (n s : Nat), 110 - s < n → s ≤ sy → (∀ m, m < s → nam m ≠ l) → V_X9_numbered_15 L post n (nI l.length) (nI s) g
  | 0, s => fun h => absurd h (by omega)
  | n + 1, s => by
    intro h1 h2 h3
    unfold V_X9_numbered_15
    rw [hg]
    refine ⟨fun c => ?_, fun c => ?_⟩
    · have := (nI_leI (by omega) (by omega)).mp c
      have hnone := fnd_none (sy := sy) (fun m hm => h3 m (by omega))
      by_cases h40 : sy = 40
      · unfold V_X9_add
        rw [hg]
        exact ⟨fun c2 => absurd c2 (nI_nlt (b := 40) (by omega) (by omega)), fun _ => k2 hnone h40⟩
      · exact c_add hL hL2 (by omega) hl5 hl (by omega) hg hf (k3 hnone (by omega))
    · have hs : s < sy := by
        rcases Nat.lt_or_ge s sy with z | z
        · exact z
        · exact absurd (nI_le z (by omega)) c
      obtain ⟨a1, a2, a3, a4⟩ := hn5 s hs
      refine c_isNamed hL hL2 (by omega) hl5 hl a2 a1 hs hy hg a3 a4 hf (fun e => ⟨fun c => absurd c (by decide), fun _ => k1 s (fnd_some hs e h3)⟩) (fun e => ⟨fun _ => eqI ?_, fun c => absurd rfl c⟩)
      rw [nI_1]
      refine c_numberedL hL hL2 hl5 hl hy hg hn5 hf k1 k2 k3 n (s + 1) (by omega) (by omega) (fun m hm => ?_)
      by_cases e2 : m = s
      · subst e2; exact e
      · exact h3 m (by omega)
-- the reference
theorem r_symL2 {l : List Nat} {sy : Nat} {post : Int32 → St → StL → Prop} {k : StL} (hl : nmOK l) (hl5 : l.length ≤ 5) (hs : sy < 40) (hk : ∀ i, i < 31 → k 2 i = lN (nmL (OPTX.getD (i + 1) []))) :
    ∀ (n i : Nat) (g : St), 40 - i < n → i ≤ 31 → g 0 2 = nI sy → g 1 sy = nI (if ∃ m, m < i ∧ OPTX.getD (m + 1) [] = l then opR (opx l) else 31) → (post (nI sy) (us (up g 1 sy (nI (opR (opx l)))) 2 (nI (sy + 1))) k) → V_X12_symbolOf_63 post n (lN (nmL l)) (nI i) g k
  | 0, i, g => fun h => absurd h (by omega)
  | n + 1, i, g => by
    intro h1 h2 h3 h4 kk
    unfold V_X12_symbolOf_63
    refine ⟨fun c => ?_, fun c => ?_⟩
    · have := (nI_leI (a := 31) (by decide) (by omega)).mp c
      have hi : i = 31 := by omega
      subst hi
      refine eqI ?_
      rw [h3, nI_1]
      have e3 : (us g 2 (nI (sy + 1))) 0 2 - 1 = nI sy := by
        show nI (sy + 1) - 1 = _
        exact nI_pred sy
      rw [e3]
      have e4 : g 1 sy = nI (opR (opx l)) := by
        rw [h4]
        split
        · rfl
        · rename_i hno
          rw [opx_no (fun m a b e => hno ⟨m - 1, by omega, by rw [show m - 1 + 1 = m by omega]; exact e⟩)]; rfl
      have e5 : up g 1 sy (nI (opR (opx l))) = g := by
        funext b
        show cond (Nat.beq b 1) (upd (g 1) sy _) (g b) = g b
        cases h : Nat.beq b 1 with
        | true =>
          rw [Nat.eq_of_beq_eq_true h]
          funext t
          show upd (g 1) sy _ t = g 1 t
          by_cases e : t = sy
          · subst e; rw [updE, e4]
          · rw [updN _ _ e]
        | false => rfl
      rw [e5] at kk
      exact kk
    · have hi : i < 31 := by
        rcases Nat.lt_or_ge i 31 with z | z
        · exact z
        · exact absurd (nI_le (a := 31) z (by omega)) c
      have ho := opt_len (i + 1) (by omega)
      have hk' := opt_ok (i + 1) (by omega)
      rw [nI_clamp (by omega), hk i hi]
      refine ⟨vp_in_nI hi (by decide), fun c2 => eqI ?_, fun c2 => ?_⟩
      · rw [nI_1]
        have hne : OPTX.getD (i + 1) [] ≠ l := fun e => c2 ((cmp_nm (by omega) (by omega) hk' hl).mpr e)
        refine r_symL2 hl hl5 hs hk n (i + 1) g (by omega) (by omega) h3 ?_ kk
        rw [h4]
        congr 2
        apply propext
        constructor
        · rintro ⟨m, a, b⟩; exact ⟨m, by omega, b⟩
        · rintro ⟨m, a, b⟩
          by_cases e : m = i
          · subst e; exact absurd b hne
          · exact ⟨m, by omega, b⟩
      · have he : OPTX.getD (i + 1) [] = l := (cmp_nm (by omega) (by omega) hk' hl).mp c2
        rw [h3, nI_clamp (by omega)]
        refine ⟨vp_in_nI hs (by decide), eqI (eqI ?_)⟩
        rw [nI_1]
        have hop : opR (opx l) = i := by rw [opx_eq (by omega) (by omega) he]; rfl
        refine r_symL2 hl hl5 hs hk n (i + 1) _ (by omega) (by omega) h3 ?_ ?_
        · show upd (g 1) sy (nI i) sy = _
          rw [updE, if_pos ⟨i, by omega, he⟩, hop]
        · have e9 : up (up g 1 sy (nI i)) 1 sy (nI (opR (opx l))) = up g 1 sy (nI (opR (opx l))) := by
            funext b
            show cond (Nat.beq b 1) (upd (up g 1 sy (nI i) 1) sy _) (cond (Nat.beq b 1) _ (g b)) = cond (Nat.beq b 1) (upd (g 1) sy _) (g b)
            cases h : Nat.beq b 1 with
            | true =>
              show upd (upd (g 1) sy (nI i)) sy _ = upd (g 1) sy _
              funext t
              by_cases e : t = sy
              · subst e; rw [updE, updE]
              · rw [updN _ _ e, updN _ _ e, updN _ _ e]
            | false => rfl
          rw [e9]; exact kk
theorem r_symL {l : List Nat} {sy : Nat} {nam : Nat → List Nat} {post : Int32 → St → StL → Prop} {g : St} {k : StL} (hl : nmOK l) (hl5 : l.length ≤ 5) (hy : sy ≤ 40) (hg : g 0 2 = nI sy) (hn : ∀ s, s < sy → (nam s).length ≤ 5 ∧ nmOK (nam s) ∧ k 1 s = lN (nmL (nam s))) (hk : ∀ i, i < 31 → k 2 i = lN (nmL (OPTX.getD (i + 1) [])))
    (k1 : ∀ s, fnd sy nam l = some s → post (nI s) g k) (k2 : fnd sy nam l = none → sy = 40 → post (-1) g k) (k3 : fnd sy nam l = none → sy < 40 → post (nI sy) (us (up g 1 sy (nI (opR (opx l)))) 2 (nI (sy + 1))) (upL k 1 sy (lN (nmL l)))) :
    ∀ (n s : Nat), 90 - s < n → s ≤ sy → (∀ m, m < s → nam m ≠ l) → V_X12_symbolOf_2 post n (lN (nmL l)) (nI s) g k
  | 0, s => fun h => absurd h (by omega)
  | n + 1, s => by
    intro h1 h2 h3
    unfold V_X12_symbolOf_2
    rw [hg]
    refine ⟨fun c => ?_, fun c => ?_⟩
    · have := (nI_leI (by omega) (by omega)).mp c
      have hnone := fnd_none (sy := sy) (fun m hm => h3 m (by omega))
      refine ⟨fun c2 => ?_, fun c2 => k2 hnone (nI_inj (b := 40) (by omega) (by decide) c2)⟩
      have hs : sy < 40 := by
        rcases Nat.lt_or_ge sy 40 with z | z
        · exact z
        · exact absurd (by rw [show sy = 40 by omega]; rfl) c2
      rw [nI_clamp (by omega)]
      refine ⟨vp_in_nI hs (by decide), eqI ⟨vp_in_nI hs (by decide), eqI (eqI ?_)⟩⟩
      refine r_symL2 (k := upL k 1 sy (lN (nmL l))) hl hl5 hs (fun i hi => hk i hi) n 0 (up g 1 sy 31) (by omega) (by omega) hg ?_ ?_
      · show upd (g 1) sy 31 sy = _
        rw [updE, if_neg (by rintro ⟨m, a, -⟩; omega)]; rfl
      · have e9 : up (up g 1 sy 31) 1 sy (nI (opR (opx l))) = up g 1 sy (nI (opR (opx l))) := by
          funext b
          show cond (Nat.beq b 1) (upd (up g 1 sy 31 1) sy _) (cond (Nat.beq b 1) _ (g b)) = cond (Nat.beq b 1) (upd (g 1) sy _) (g b)
          cases h : Nat.beq b 1 with
          | true =>
            show upd (upd (g 1) sy 31) sy _ = upd (g 1) sy _
            funext t
            by_cases e : t = sy
            · subst e; rw [updE, updE]
            · rw [updN _ _ e, updN _ _ e, updN _ _ e]
          | false => rfl
        rw [e9]; exact k3 hnone hs
    · have hs : s < sy := by
        rcases Nat.lt_or_ge s sy with z | z
        · exact z
        · exact absurd (nI_le z (by omega)) c
      obtain ⟨a1, a2, a3⟩ := hn s hs
      rw [nI_clamp (by omega), a3]
      refine ⟨vp_in_nI (by omega) (by decide), fun c2 => eqI ?_, fun c2 => k1 s (fnd_some hs ((cmp_nm (by omega) (by omega) a2 hl).mp c2) h3)⟩
      rw [nI_1]
      refine r_symL hl hl5 hy hg hn hk k1 k2 k3 n (s + 1) (by omega) (by omega) (fun m hm => ?_)
      by_cases e2 : m = s
      · subst e2; exact fun e => c2 ((cmp_nm (by omega) (by omega) a2 hl).mpr e)
      · exact h3 m (by omega)
