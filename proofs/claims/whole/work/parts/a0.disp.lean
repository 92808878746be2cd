-- ===== every step of the machine =====
section DP
variable {x : Cx} {G0 : SG} {N : Nat} {cv cf : Int32} {sv : Nat → Option Va} {rc : Nat → Va × Va} {hp : Nat → Option Ob} {out : List Nat} {inp : List Int} {cn : Nat → Int32}
theorem few_pos : ∀ op : Fin 32, 9 ≤ op.1 → op.1 ≠ 14 → op.1 ≠ 31 → ¬ FEWL.getD op.1 0 ≤ nI 0 := by decide +kernel
theorem d_ask {Kf : List Fr} {v : Va} {p : Nat} (hX : XC x G0 N) (h : PA x ((0, p, v), Kf, sv, rc, hp, out, inp, cn)) : Stq x G0 N cv cf ((0, p, v), Kf, sv, rc, hp, out, inp, cn) := by
  obtain ⟨st, e0, hst0, ecl, hn⟩ := CtK_lim h.2.1
  by_cases hst : st < 1000
  case neg =>
    have e : st = 1000 := by omega
    rw [e] at e0
    exact a_full hX h e0
  have hE : ∃ D sc q, xE x D sc v p q := by
    obtain ⟨-, -, -, -, D, sc, q, hE, -⟩ := h
    exact ⟨D, sc, q, hE⟩
  rcases v with _ | m | s | ⟨i, c⟩ | s | s | s
  · exact a_atom hX h e0 hst (Or.inl rfl)
  · exact a_atom hX h e0 hst (Or.inr ⟨m, rfl⟩)
  · exact a_sym hX h e0 hst
  · obtain ⟨hW, hCt, d, q, op, sc, l, hA⟩ := akL h
    have hop : op < 32 := hA.2.2.2.2.2.1
    by_cases h1 : op = 1
    · subst h1; exact a_quote hX hW hCt hA e0 hst
    by_cases h6 : op = 6
    · subst h6; exact a_fn hX hW hCt hA e0 hst
    by_cases hl : l = []
    · subst hl
      by_cases h3 : op = 3
      · subst h3; exact a_do0 hX hW hCt hA e0 hst
      by_cases h14 : op = 14
      · subst h14; exact a_list0 hX hW hCt hA e0 hst
      by_cases h31 : op = 31
      · subst h31; exact a_get hX hW hCt hA e0 hst
      refine a_first hX hW hCt hA e0 hst h1 h6 (fun hc => ?_)
      rcases hc with hc | hc
      · exact absurd hc h3
      · have hO := hA.2.2.2.2.2.2.2.2.2.2.2
        obtain ⟨o, rfl⟩ : ∃ o, op = o + 9 := ⟨op - 9, by omega⟩
        obtain ⟨p1, f1, -⟩ := hO
        exact absurd f1 (few_pos ⟨o + 9, hop⟩ hc h14 h31)
    · exact a_first hX hW hCt hA e0 hst h1 h6 (fun _ => hl)
  all_goals
    obtain ⟨D, sc, q, hE⟩ := hE
    cases D with
    | zero => exact hE.elim
    | succ D =>
      obtain ⟨-, -, -, -, hm, -⟩ := hE
      exact absurd trivial hm
theorem d_op {K : List Fr} {op i st e q p : Nat} {vs : List Va} {v : Va} (hX : XC x G0 N) (hKf : Kfun x) (h9 : 9 ≤ op) (h32 : op < 32) (h : PA x ((1, p, v), (op, i, [], st, e, q, vs) :: K, sv, rc, hp, out, inp, cn)) : Stq x G0 N cv cf ((1, p, v), (op, i, [], st, e, q, vs) :: K, sv, rc, hp, out, inp, cn) := by
  obtain ⟨D, p1, sc, hF⟩ := opF hX h9 h32 h
  by_cases h31 : op = 31
  · subst h31
    have f2 := hF.2.2.2.2.2.2.2.1
    have hl := hF.2.2.2.2.2.2.2.2.1
    have hl : vs.length + 1 ≤ 4 := hl
    have f2 : nI (vs.length + 1) ≤ nI 0 := f2
    exact absurd ((nI_leI (by omega) (by decide)).mp f2) (by omega)
  have hcs : op = 9 ∨ op = 10 ∨ op = 11 ∨ op = 12 ∨ op = 13 ∨ op = 14 ∨ op = 15 ∨ op = 16 ∨ op = 17 ∨ op = 18 ∨ op = 19 ∨ op = 20 ∨ op = 21 ∨ op = 22 ∨ op = 23 ∨ op = 24 ∨ op = 25 ∨ op = 26 ∨ op = 27 ∨ op = 28 ∨ op = 29 ∨ op = 30 := by omega
  rcases hcs with rfl | rfl | rfl | rfl | rfl | rfl | rfl | rfl | rfl | rfl | rfl | rfl | rfl | rfl | rfl | rfl | rfl | rfl | rfl | rfl | rfl | rfl
  · exact s_9 hX hF
  · exact s_10 hX hF
  · exact s_11 hX hF
  · exact s_12 hX hF
  · exact s_13 hX hF
  · exact s_14 hX hF
  · exact s_15 hX hF
  · exact s_16 hX hKf hF
  · exact s_17 hX hF
  · exact s_18 hX hF
  · exact s_19 hX hF
  · exact s_20 hX hF
  · exact s_21 hX hF
  · exact s_22 hX hF
  · exact s_23 hX hF
  · exact s_24 hX hF
  · exact s_25 hX hF
  · exact s_26 hX hF
  · exact s_27 hX hF
  · exact s_28 hX hF
  · exact s_29 hX hF
  · exact s_30 hX hF
theorem d_ret {K : List Fr} {op i st e q p : Nat} {rest : List Nat} {vs : List Va} {v : Va} (hX : XC x G0 N) (hKf : Kfun x) (h : PA x ((1, p, v), (op, i, rest, st, e, q, vs) :: K, sv, rc, hp, out, inp, cn)) : Stq x G0 N cv cf ((1, p, v), (op, i, rest, st, e, q, vs) :: K, sv, rc, hp, out, inp, cn) := by
  have hFr : ∃ D p1 sc, FrK x D p1 sc i rest st q vs op := by
    obtain ⟨-, -, -, -, D, p1, sc, hR⟩ := rtF h
    exact ⟨D, p1, sc, hR.2.2.2.2.2.2.2.2.1⟩
  obtain ⟨D, p1, sc, hF⟩ := hFr
  have hop := FrK_op op hF
  have hcs : op = 0 ∨ op = 1 ∨ op = 2 ∨ op = 3 ∨ op = 4 ∨ op = 5 ∨ op = 6 ∨ op = 7 ∨ op = 8 ∨ (9 ≤ op ∧ op < 32) ∨ op = 32 ∨ op = 33 := by omega
  rcases hcs with rfl | rfl | rfl | rfl | rfl | rfl | rfl | rfl | rfl | ⟨h9, h32⟩ | rfl | rfl
  · cases rest with
    | nil => exact s_call hX h
    | cons y r => exact s_arg hX (Or.inl rfl) h
  · exact hF.elim
  · exact s_if hX h
  · exact s_do hX h
  · exact s_set hX h
  · exact s_while hX h
  · exact hF.elim
  · exact s_catch hX h
  · cases rest with
    | nil => exact s_throw hX hKf h
    | cons y r => exact s_arg hX (Or.inr (Or.inl rfl)) h
  · cases rest with
    | nil => exact d_op hX hKf h9 h32 h
    | cons y r => exact s_arg hX (Or.inr (Or.inr ⟨h9, h32⟩)) h
  · rcases hF with ⟨c, -⟩ | ⟨c, -⟩
    · cases c
    · omega
  · exact s_body hX h
end DP
/-- the machine has come to its end -/
def Fin1 : As → Prop
  | ((0, _, _), _) => False
  | ((1, _, _), Kf, _) => Kf = []
  | ((_ + 2, _, _), _) => True
theorem d_all {x : Cx} {G0 : SG} {N : Nat} {cv cf : Int32} (hX : XC x G0 N) (hKf : Kfun x) : ∀ A : As, PA x A → ¬ Fin1 A → Stq x G0 N cv cf A
  | ((0, p, v), Kf, sv, rc, hp, out, inp, cn), h, _ => d_ask hX h
  | ((1, p, v), [], sv, rc, hp, out, inp, cn), h, hf => absurd rfl hf
  | ((1, p, v), (op, i, rest, st, e, q, vs) :: K, sv, rc, hp, out, inp, cn), h, _ => d_ret hX hKf h
  | ((e + 2, p, v), Kf, sv, rc, hp, out, inp, cn), h, hf => absurd trivial hf
theorem d_run {x : Cx} {G0 : SG} {N : Nat} {cv cf : Int32} (hX : XC x G0 N) (hKf : Kfun x) : ∀ (m : Nat) (A : As), mu A ≤ m → PA x A → ∃ F, PA x F ∧ Fin1 F ∧
    (∀ (G : SG) (post : Int32 → SG → Prop) (n i : Nat), CR x G0 A G → 20000 + 40 * m ≤ n → i + 40 * m ≤ 900000 → (∀ (G1 : SG) (n1 i1 : Nat), CR x G0 F G1 → n ≤ n1 + 40 * m → i1 ≤ i + 40 * m → V_X7_run_32 N post n1 (nI i1) G1) → V_X7_run_32 N post n (nI i) G) ∧
    (∀ (g : St) (k : StL) (post : Int32 → St → StL → Prop) (n : Nat), MR x cv cf A g k → 20000 + m + 1 ≤ n → (∀ (g1 : St) (k1 : StL) (n1 : Nat), MR x cv cf F g1 k1 → 20000 ≤ n1 → V_X12_run_69 post n1 g1 k1) → V_X12_run_69 post n g k) := by
  intro m
  induction m with
  | zero =>
    intro A hm hA
    by_cases hf : Fin1 A
    · exact ⟨A, hA, hf, fun G post n i hG hn hi kk => kk G n i hG (by omega) (by omega), fun g k post n hR hn kk => kk g k n hR (by omega)⟩
    · obtain ⟨A1, -, hlt, -⟩ := d_all (cv := cv) (cf := cf) hX hKf A hA hf
      omega
  | succ m ih =>
    intro A hm hA
    by_cases hf : Fin1 A
    · exact ⟨A, hA, hf, fun G post n i hG hn hi kk => kk G n i hG (by omega) (by omega), fun g k post n hR hn kk => kk g k n hR (by omega)⟩
    · obtain ⟨A1, hA1, hlt, hC, hR⟩ := d_all (cv := cv) (cf := cf) hX hKf A hA hf
      obtain ⟨F, f1, f2, f3, f4⟩ := ih A1 (by omega) hA1
      refine ⟨F, f1, f2, fun G post n i hG hn hi kk => ?_, fun g k post n hM hn kk => ?_⟩
      · refine hC G post n i hG (by omega) (by omega) (fun G1 n1 i1 h1 b1 b2 => f3 G1 post n1 i1 h1 (by omega) (by omega) (fun G2 n2 i2 h2 b3 b4 => kk G2 n2 i2 h2 (by omega) (by omega)))
      · obtain ⟨n, rfl⟩ : ∃ n', n = n' + 1 := ⟨n - 1, by omega⟩
        exact hR g k post n hM (by omega) (fun g1 k1 h1 => f4 g1 k1 post n h1 (by omega) kk)
