-- ===== the reference's collection =====
def Mk (M : Nat → Bool) (s : Nat) : Int32 := if M s then 1 else 0
/-- only the marks differ -/
def MkR (g0 g : St) (M : Nat → Bool) : Prop := (∀ c, c ≠ 11 → g c = g0 c) ∧ ∀ s, s < 168 → g 11 s = Mk M s
def Sub (M : Nat → Bool) (P : Nat → Prop) : Prop := ∀ s, M s = true → P s
def inM (M : Nat → Bool) (o : Option Nat) : Prop := ∀ s, o = some s → M s = true
def leM (M M1 : Nat → Bool) : Prop := ∀ s, M s = true → M1 s = true
def setM (M : Nat → Bool) (s : Nat) : Nat → Bool := fun x => if x = s then true else M x
theorem MkR_set {g0 g : St} {M : Nat → Bool} {s : Nat} (h : MkR g0 g M) : MkR g0 (up g 11 s 1) (setM M s) := by
  refine ⟨fun c hc => by rw [upB _ _ _ hc, h.1 c hc], fun x hx => ?_⟩
  rw [upA]
  unfold Mk setM
  by_cases e : x = s
  · subst e; rw [updE, if_pos rfl]; rfl
  · rw [updN _ _ e, if_neg e]; exact h.2 x hx
theorem setM_le {M : Nat → Bool} {s : Nat} : leM M (setM M s) := fun x hx => by unfold setM; split <;> first | rfl | exact hx
theorem setM_in {M : Nat → Bool} {s : Nat} : setM M s s = true := if_pos rfl
theorem setM_sub {M : Nat → Bool} {P : Nat → Prop} {s : Nat} (h : Sub M P) (hs : P s) : Sub (setM M s) P := fun x hx => by
  unfold setM at hx
  by_cases e : x = s
  · rw [e]; exact hs
  · rw [if_neg e] at hx; exact h x hx
theorem leM_tr {A B C : Nat → Bool} (h : leM A B) (h2 : leM B C) : leM A C := fun s hs => h2 s (h s hs)
section GM
variable {g0 : St} {k : StL} {P : Nat → Prop}
theorem r_mark {g : St} {M : Nat → Bool} {v : Va} {post : St → StL → Prop} (hM : MkR g0 g M) (hS : Sub M P) (hv : vok v) (hP : ∀ s, vref v = some s → P s) (kk : ∀ g1 M1, MkR g0 g1 M1 → Sub M1 P → leM M M1 → inM M1 (vref v) → post g1 k) : V_X12_mark (enc v) g k post := by
  have stay : vref v = none → post g k := fun e => kk g M hM hS (fun _ h => h) (fun s c => by rw [e] at c; cases c)
  have go : ∀ s, vref v = some s → post (up g 11 s 1) k := fun s e => kk _ _ (MkR_set hM) (setM_sub hS (hP s e)) setM_le (fun x c => by rw [e] at c; cases c; exact setM_in)
  unfold V_X12_mark
  refine r_sort hv ?_
  have m34 : ∀ g1 : St, vkd v ≠ 5 → vkd v ≠ 6 → post g1 k → V_X12_mark_34 post (enc v) (nI (vkd v)) g1 k := fun g1 h5 h6 h => by
    have hk := va_kd_lt v
    unfold V_X12_mark_34
    exact ⟨fun c => absurd ((nI_eq (b := 5) (by omega) (by decide)).mp c) h5, fun _ => ⟨fun _ => h, fun c => absurd ((nI_eq (b := 6) (by omega) (by decide)).mp c) h6⟩⟩
  rcases v with _ | n | s | ⟨i, c⟩ | s | s | s
  · exact ⟨fun _ => m34 g (show (1 : Nat) ≠ 5 by decide) (show (1 : Nat) ≠ 6 by decide) (stay rfl), fun c => absurd c (show ¬ nI 1 = 4 by decide)⟩
  · exact ⟨fun _ => m34 g (show (2 : Nat) ≠ 5 by decide) (show (2 : Nat) ≠ 6 by decide) (stay rfl), fun c => absurd c (show ¬ nI 2 = 4 by decide)⟩
  · exact ⟨fun _ => m34 g (show (3 : Nat) ≠ 5 by decide) (show (3 : Nat) ≠ 6 by decide) (stay rfl), fun c => absurd c (show ¬ nI 3 = 4 by decide)⟩
  · have hi : i < 1100 := hv.1
    refine ⟨fun _ => m34 g (show (4 : Nat) ≠ 5 by decide) (show (4 : Nat) ≠ 6 by decide) (stay rfl), fun _ => r_load hv ⟨fun _ => m34 g (show (4 : Nat) ≠ 5 by decide) (show (4 : Nat) ≠ 6 by decide) (stay rfl), fun c => absurd (nI_lt (a := i) (b := 2000) (by omega) (by decide)) c⟩⟩
  · have hi : s < 168 := hv
    refine ⟨fun c => absurd rfl c, fun _ => r_load hv ⟨fun c => absurd ((nI_ltI (a := 2000 + s) (b := 2000) (by omega) (by decide)).mp c) (by omega), fun _ => r_load hv ?_⟩⟩
    have hs : nI (vld (vcel s)) - 2000 = nI s := by
      show nI (2000 + s) - nI 2000 = nI s
      rw [nI_sub (by omega), show 2000 + s - 2000 = s by omega]
    rw [hs, nI_clamp (by omega)]
    refine ⟨vp_in_nI hi (by decide), eqI ?_⟩
    exact m34 _ (show (4 : Nat) ≠ 5 by decide) (show (4 : Nat) ≠ 6 by decide) (go s rfl)
  · have hi : s < 168 := hv
    refine ⟨fun _ => ?_, fun c => absurd c (show ¬ nI 5 = 4 by decide)⟩
    unfold V_X12_mark_34
    refine ⟨fun _ => r_load hv ⟨vp_in_nI hi (by decide), eqI ?_⟩, fun c => absurd rfl c⟩
    have hs : (nI (vld (vvec s))).toNatClampNeg = s := nI_clamp (n := s) (by omega)
    rw [hs]
    exact go s rfl
  · have hi : s < 168 := hv
    refine ⟨fun _ => ?_, fun c => absurd c (show ¬ nI 6 = 4 by decide)⟩
    unfold V_X12_mark_34
    refine ⟨fun c => absurd c (show ¬ nI 6 = 5 by decide), fun _ => ⟨fun c => absurd rfl c, fun _ => r_load hv ⟨vp_in_nI hi (by decide), eqI ?_⟩⟩⟩
    have hs : (nI (vld (vclo s))).toNatClampNeg = s := nI_clamp (n := s) (by omega)
    rw [hs]
    exact go s rfl
def eref : Nat → Option Nat
  | 0 => none
  | s + 1 => some s
theorem r_markFrame {g : St} {M : Nat → Bool} {e : Nat} {post : St → StL → Prop} (hM : MkR g0 g M) (hS : Sub M P) (he : e ≤ 168) (hP : ∀ s, eref e = some s → P s) (kk : ∀ g1 M1, MkR g0 g1 M1 → Sub M1 P → leM M M1 → inM M1 (eref e) → post g1 k) : V_X12_markFrame (nI e) g k post := by
  unfold V_X12_markFrame
  cases e with
  | zero => exact ⟨fun _ => kk g M hM hS (fun _ h => h) (fun s c => by cases c), fun c => absurd (Int32.le_refl _) c⟩
  | succ s =>
    refine ⟨fun c => absurd c (nI_nle (by omega) (by omega)), fun _ => ?_⟩
    rw [show nI (s + 1) - 1 = nI s from nI_pred _, nI_clamp (by omega)]
    exact ⟨vp_in_nI (by omega) (by decide), eqI (kk _ _ (MkR_set hM) (setM_sub hS (hP s rfl)) setM_le (fun x c => by cases c; exact setM_in))⟩
def cnt (M : Nat → Bool) : Nat → Nat
  | 0 => 0
  | n + 1 => cnt M n + (if M n then 1 else 0)
theorem cnt_le (M : Nat → Bool) : ∀ n, cnt M n ≤ n
  | 0 => Nat.le_refl _
  | n + 1 => by have := cnt_le M n; show cnt M n + _ ≤ n + 1; split <;> omega
theorem cnt_mono {M M1 : Nat → Bool} (h : leM M M1) : ∀ n, cnt M n ≤ cnt M1 n ∧ (cnt M n = cnt M1 n → ∀ s, s < n → M1 s = true → M s = true)
  | 0 => ⟨Nat.le_refl _, fun _ s hs => absurd hs (Nat.not_lt_zero _)⟩
  | n + 1 => by
    obtain ⟨a, b⟩ := cnt_mono h n
    have hn := h n
    show cnt M n + (if M n then 1 else 0) ≤ cnt M1 n + (if M1 n then 1 else 0) ∧ (cnt M n + (if M n then 1 else 0) = cnt M1 n + (if M1 n then 1 else 0) → _)
    cases e : M n with
    | true =>
      rw [hn e]
      refine ⟨by simp; omega, fun c s hs h1 => ?_⟩
      by_cases e2 : s = n
      · subst e2; exact e
      · exact b (by simpa using c) s (by omega) h1
    | false =>
      cases e1 : M1 n with
      | true => exact ⟨by simp; omega, fun c => by simp at c; omega⟩
      | false =>
        refine ⟨by simp; omega, fun c s hs h1 => ?_⟩
        by_cases e2 : s = n
        · subst e2; rw [e1] at h1; cases h1
        · exact b (by simpa using c) s (by omega) h1
theorem r_marksL {g : St} {M : Nat → Bool} {post : Int32 → St → StL → Prop} (hM : MkR g0 g M) (kk : post (nI (cnt M 168)) g k) : ∀ (n i : Nat), 168 - i < n → i ≤ 168 → V_X12_marks_4 post n (nI (cnt M i)) (nI i) g k
  | 0, i => fun h => absurd h (by omega)
  | n + 1, i => by
    intro h1 h2
    unfold V_X12_marks_4
    refine ⟨fun c => ?_, fun c => ?_⟩
    · have : i = 168 := by have := (nI_leI (a := 168) (b := i) (by decide) (by omega)).mp c; omega
      subst this; exact kk
    · have hi : i < 168 := by
        rcases Nat.lt_or_ge i 168 with z | z
        · exact z
        · exact absurd ((nI_leI (a := 168) (b := i) (by decide) (by omega)).mpr z) c
      rw [nI_clamp (by omega), hM.2 i hi, nI_1]
      refine ⟨vp_in_nI hi (by decide), fun c => ?_, fun c => ?_⟩
      · have e : M i = false := by
          cases e : M i with
          | false => rfl
          | true => unfold Mk at c; rw [e] at c; exact absurd c (by decide)
        have e2 : cnt M (i + 1) = cnt M i := by show cnt M i + (if M i then 1 else 0) = _; rw [e]; simp
        have := r_marksL hM kk n (i + 1) (by omega) hi
        rw [e2] at this
        rw [show nI (cnt M i) + 0 = nI (cnt M i) from Int32.add_zero _]
        exact eqI (eqI this)
      · have e : M i = true := by
          cases e : M i with
          | true => rfl
          | false => unfold Mk at c; rw [e] at c; exact absurd rfl c
        have e2 : cnt M (i + 1) = cnt M i + 1 := by show cnt M i + (if M i then 1 else 0) = _; rw [e]; simp
        have := r_marksL hM kk n (i + 1) (by omega) hi
        rw [e2] at this
        rw [nI_1]
        exact eqI (eqI this)
theorem r_marks {g : St} {M : Nat → Bool} {n : Nat} {post : Int32 → St → StL → Prop} (hM : MkR g0 g M) (hn : 200 ≤ n) (kk : post (nI (cnt M 168)) g k) : V_X12_marks n g k post := by
  unfold V_X12_marks
  exact eqI (eqI (r_marksL hM kk n 0 (by omega) (Nat.zero_le _)))
end GM
