-- ===== printing: the reference =====
def StkP (g : St) : List (Va × Int) → Prop
  | [] => True
  | (v, j) :: S => g 25 S.length = enc v ∧ g 26 S.length = iI j ∧ StkP g S
theorem StkP_fr {g g1 : St} : ∀ (S : List (Va × Int)), (∀ t, t < S.length → g1 25 t = g 25 t ∧ g1 26 t = g 26 t) → StkP g S → StkP g1 S
  | [], _, _ => trivial
  | (v, j) :: S, h, ⟨a, b, c⟩ => by
    have h1 := h S.length (by show S.length < S.length + 1; omega)
    exact ⟨h1.1.trans a, h1.2.trans b, StkP_fr S (fun t ht => h t (by show t < S.length + 1; omega)) c⟩
def Pr (g0 : St) (S : List (Va × Int)) (out : List Nat) (g : St) : Prop := (∀ c, c ≠ 0 → c ≠ 23 → c ≠ 25 → c ≠ 26 → g c = g0 c) ∧ (∀ j, j ≠ 24 → j ≠ 26 → g 0 j = g0 0 j) ∧ (g 0 24 = nI out.length ∧ ∀ i, i < out.length → g 23 i = nI (out.getD i 0)) ∧ OKo out ∧ g 0 26 = nI S.length ∧ StkP g S ∧ S.length ≤ 8
def SOK (x : Cx) (hp : Nat → Option Ob) (S : List (Va × Int)) : Prop := ∀ f ∈ S, VV x.K x.C hp f.1 ∧ (vkd f.1 = 4 ∧ (f.2 = 0 ∨ f.2 = 1 ∨ f.2 = -9) ∨ vkd f.1 = 5 ∧ ∃ t : Nat, f.2 = (t : Int) ∧ t ≤ (vel hp f.1).length)
def mP (S : List (Va × Int)) (out : List Nat) : Nat := 2 * (200 - out.length) + (match S with | (_, j) :: _ => if j = 0 then 1 else 0 | [] => 0)
theorem mP_le (S : List (Va × Int)) (out : List Nat) : mP S out ≤ 2 * (200 - out.length) + 1 := by
  unfold mP
  split
  · split <;> omega
  · omega
abbrev SH (x : Cx) (rc : Nat → Va × Va) (hp : Nat → Option Ob) (e : Nat) : Va → List Nat → List Nat := shw (prp rc hp) (vel hp) (txt x.sy x.nam) e
abbrev RS (x : Cx) (rc : Nat → Va × Va) (hp : Nat → Option Ob) : List (Va × Int) → List Nat → List Nat := rst (prp rc hp) (vel hp) (txt x.sy x.nam)
theorem ch_put : ∀ c : Fin 128, vp_nar .char (((nI c.1).toUInt32 % 65536).toInt32) = nI c.1 := by decide +kernel
section PM
variable {x : Cx} {cv cf : Int32} {sv : Nat → Option Va} {rc : Nat → Va × Va} {hp : Nat → Option Ob} {out out0 : List Nat} {inp : List Int} {cn : Nat → Int32} {g0 g : St} {k : StL} {n : Nat} {post : St → StL → Prop} {S : List (Va × Int)}
theorem Pr_MW (hM : MW x cv cf sv rc hp out0 inp cn g0 k) (h : Pr g0 S out g) : MW x cv cf sv rc hp out inp cn g k := by
  obtain ⟨a1, a2, a3, a4, a5, a6, a7⟩ := h
  refine MW_io hM (fun c c0 c1 => a1 c c0 (by omega) (by omega) (by omega)) (fun j j1 _ _ _ => a2 j (by omega) (by omega)) a3 ⟨(a2 25 (by decide) (by decide)).trans hM.2.2.2.2.2.2.2.2.2.1.1, fun i hi => ?_⟩
  rw [a1 24 (by decide) (by decide) (by decide) (by decide)]
  exact hM.2.2.2.2.2.2.2.2.2.1.2 i hi
theorem r_put {c : Nat} (hc : c < 128) (h : Pr g0 S out g) (kk : ∀ g1, Pr g0 S (add1 out c) g1 → post g1 k) : V_X12_put (nI c) g k post := by
  obtain ⟨a1, a2, a3, a4, a5, a6, a7⟩ := id h
  have hl := a4.1
  unfold V_X12_put
  rw [a3.1]
  refine ⟨fun c2 => ?_, fun c2 => ?_⟩
  · have hlt : out.length < 200 := by
      have : out.length ≠ 200 := fun e => c2 (by rw [e]; rfl)
      omega
    rw [nI_clamp (by omega)]
    refine ⟨vp_in_nI hlt (by decide), eqI (eqI (kk _ ?_))⟩
    have e24 : (up g 23 out.length (vp_nar .char (((nI c).toUInt32 % 65536).toInt32))) 0 24 = nI out.length := a3.1
    rw [e24, nI_1, ch_put ⟨c, hc⟩]
    refine ⟨fun c3 d0 d1 d2 d3 => ?_, fun j j1 j2 => ?_, ⟨?_, fun i hi => ?_⟩, add1_ok a4 (by omega), a5, StkP_fr (g := g) S (fun t ht => ⟨rfl, rfl⟩) a6, a7⟩
    · rw [usZ d0, upB _ _ _ d1]; exact a1 c3 d0 d1 d2 d3
    · rw [us4 _ _ j1]; exact a2 j j1 j2
    · rw [add1_lt hlt]; rfl
    · rw [add1_lt hlt] at hi
      rw [add1, if_pos hlt]
      show upd (g 23) out.length (nI c) i = _
      by_cases e : i = out.length
      · subst e
        rw [updE, List.getD_eq_getElem?_getD, List.getElem?_append_right (Nat.le_refl _), Nat.sub_self]; rfl
      · rw [updN _ _ e, a3.2 i (by omega), List.getD_eq_getElem?_getD, List.getD_eq_getElem?_getD, List.getElem?_append_left (by omega)]
  · have he : out.length = 200 := (nI_eq (b := 200) (by omega) (by decide)).mp c2
    have := kk g
    rw [add1_full (by omega)] at this
    exact this h
theorem r_letL {m : Nat} (hm : m < 2 ^ 40) : ∀ (j n : Nat) (out : List Nat) (g : St), j ≤ 5 → j < n → Pr g0 S out g → (∀ g1, Pr g0 S (ads out (dgt m j)) g1 → post g1 k) → V_X12_letters_3 post n (lN m) (iI (7 * (j : Int) - 7)) g k := by
  intro j
  induction j with
  | zero =>
    intro n out g hj hn h kk
    obtain ⟨n, rfl⟩ : ∃ n', n = n' + 1 := ⟨n - 1, by omega⟩
    unfold V_X12_letters_3
    exact ⟨fun _ => kk g h, fun c => absurd (by decide) c⟩
  | succ j ih =>
    intro n out g hj hn h kk
    obtain ⟨n, rfl⟩ : ∃ n', n = n' + 1 := ⟨n - 1, by omega⟩
    have ex : iI (7 * ((j + 1 : Nat) : Int) - 7) = nI (7 * j) := by
      rw [← iI_nat]; congr 1; omega
    have ex2 : nI (7 * j) + -7 = iI (7 * (j : Int) - 7) := by
      rw [← iI_nat, show (-7 : Int32) = iI (-7) from rfl, iI_add]; congr 1
    have hlt := Nat.mod_lt (m / 128 ^ j) (show 0 < 128 by decide)
    rw [ex]
    unfold V_X12_letters_3
    rw [let_at (by omega) hm, ex2]
    refine ⟨fun c => absurd c (nI_pos (by omega)), fun _ => eqI ⟨fun c => ?_, fun c => ?_⟩⟩
    · have e0 : m / 128 ^ j % 128 = 0 := (nI_eq (b := 0) (by omega) (by decide)).mp c
      refine eqI (ih n out g (by omega) (by omega) h (fun g1 h1 => kk g1 ?_))
      show Pr g0 S (ads out ((if m / 128 ^ j % 128 = 0 then [] else [m / 128 ^ j % 128]) ++ dgt m j)) g1
      rw [if_pos e0]; exact h1
    · have e0 : ¬ m / 128 ^ j % 128 = 0 := fun e => c (by rw [e]; rfl)
      refine r_put hlt h (fun g1 h1 => eqI (ih n _ g1 (by omega) (by omega) h1 (fun g2 h2 => kk g2 ?_)))
      show Pr g0 S (ads out ((if m / 128 ^ j % 128 = 0 then [] else [m / 128 ^ j % 128]) ++ dgt m j)) g2
      rw [if_neg e0]; exact h2
theorem r_let {m : Nat} (hm : m < 2 ^ 40) (hn : 10 ≤ n) (h : Pr g0 S out g) (kk : ∀ g1, Pr g0 S (ads out (dgt m 5)) g1 → post g1 k) : V_X12_letters n (lN m) g k post := by
  unfold V_X12_letters
  exact eqI (r_letL hm 5 n out g (by decide) (by omega) h kk)
theorem r_dg {a : Nat} (ha : a ≤ 32768) : ∀ (j n : Nat) (out : List Nat) (g : St), j ≤ 5 → j < n → Pr g0 S out g → (∀ g1, Pr g0 S (ads out (dg a j)) g1 → post g1 k) → V_X12_figures_46 post n (nI a) (nI (if j = 0 then 0 else 10 ^ (j - 1))) g k := by
  intro j
  induction j with
  | zero =>
    intro n out g hj hn h kk
    obtain ⟨n, rfl⟩ : ∃ n', n = n' + 1 := ⟨n - 1, by omega⟩
    unfold V_X12_figures_46
    exact ⟨fun _ => kk g h, fun c => absurd (show nI (if 0 = 0 then 0 else _) ≤ (0 : Int32) from Int32.le_refl _) c⟩
  | succ j ih =>
    intro n out g hj hn h kk
    obtain ⟨n, rfl⟩ : ∃ n', n = n' + 1 := ⟨n - 1, by omega⟩
    have hp10 : 10 ^ j ≤ 10000 := by
      have : 10 ^ j ≤ 10 ^ 4 := Nat.pow_le_pow_right (by decide) (by omega)
      omega
    have hp0 : 0 < 10 ^ j := Nat.pos_of_ne_zero (by simp)
    rw [if_neg (by omega), show j + 1 - 1 = j by omega]
    have hd := Nat.div_le_self a (10 ^ j)
    have hlt := Nat.mod_lt (a / 10 ^ j) (show 0 < 10 by decide)
    have en : nI (10 ^ j) / 10 = nI (if j = 0 then 0 else 10 ^ (j - 1)) := by
      rw [show (10 : Int32) = nI 10 from rfl, nI_div (by omega) (by decide)]
      congr 1
      by_cases e : j = 0
      · subst e; rfl
      · rw [if_neg e]
        obtain ⟨i, rfl⟩ : ∃ i, j = i + 1 := ⟨j - 1, by omega⟩
        rw [Nat.pow_succ, Nat.mul_div_cancel _ (by decide)]; rfl
    have ec : (48 : Int32) + (nI a / nI (10 ^ j) - nI a / nI (10 ^ j) / 10 * 10) = nI (48 + a / 10 ^ j % 10) := by
      rw [nI_div (by omega) (by omega), show (10 : Int32) = nI 10 from rfl, nI_div (by omega) (by decide), nI_mul, nI_sub (by omega), show (48 : Int32) = nI 48 from rfl, nI_add]
      congr 1
      omega
    unfold V_X12_figures_46
    rw [ec, en]
    refine ⟨fun c => absurd ((nI_leI (b := 0) (by omega) (by decide)).mp c) (by omega), fun _ => ⟨fun c => absurd ((nI_eq (b := 0) (by omega) (by decide)).mp c) (by omega), r_put (by omega) h (fun g1 h1 => eqI (ih n _ g1 (by omega) (by omega) h1 kk))⟩⟩
theorem r_f25 {a : Nat} (ha : a ≤ 32768) (h : Pr g0 S out g) : ∀ (j n : Nat), j ≤ 4 → 20 + j < n → (∀ g1, Pr g0 S (ads out (f25 a j)) g1 → post g1 k) → V_X12_figures_25 post n (nI a) (nI (10 ^ j)) g k := by
  intro j
  induction j with
  | zero =>
    intro n hj hn kk
    obtain ⟨n, rfl⟩ : ∃ n', n = n' + 1 := ⟨n - 1, by omega⟩
    unfold V_X12_figures_25
    exact ⟨fun _ => r_dg ha 1 n out g (by decide) (by omega) h kk, fun c => absurd (show nI (10 ^ 0) ≤ (1 : Int32) from Int32.le_refl _) c⟩
  | succ j ih =>
    intro n hj hn kk
    obtain ⟨n, rfl⟩ : ∃ n', n = n' + 1 := ⟨n - 1, by omega⟩
    have hp10 : 10 ^ (j + 1) ≤ 10000 := by
      have : 10 ^ (j + 1) ≤ 10 ^ 4 := Nat.pow_le_pow_right (by decide) (by omega)
      omega
    have hp1 : 10 ≤ 10 ^ (j + 1) := by
      have : 10 ^ 1 ≤ 10 ^ (j + 1) := Nat.pow_le_pow_right (by decide) (by omega)
      omega
    have en : nI (10 ^ (j + 1)) / 10 = nI (10 ^ j) := by
      rw [show (10 : Int32) = nI 10 from rfl, nI_div (by omega) (by decide), Nat.pow_succ, Nat.mul_div_cancel _ (by decide)]
    unfold V_X12_figures_25
    rw [en]
    refine ⟨fun c => absurd ((nI_leI (b := 1) (by omega) (by decide)).mp c) (by omega), fun _ => ⟨fun c => ?_, fun c => eqI (ih n (by omega) (by omega) (fun g1 h1 => kk g1 ?_))⟩⟩
    · have hle := (nI_leI (by omega) (by omega)).mp c
      refine r_dg ha (j + 2) n out g (by omega) (by omega) h (fun g1 h1 => kk g1 ?_)
      show Pr g0 S (ads out (if 10 ^ (j + 1) ≤ a then dg a (j + 2) else f25 a j)) g1
      rw [if_pos hle]; exact h1
    · have hle : ¬ 10 ^ (j + 1) ≤ a := fun z => c (nI_le z (by omega))
      show Pr g0 S (ads out (if 10 ^ (j + 1) ≤ a then dg a (j + 2) else f25 a j)) g1
      rw [if_neg hle]; exact h1
theorem r_fgs {m : Int} (hm : i16 m) (hn : 100 ≤ n) (h : Pr g0 S out g) (kk : ∀ g1, Pr g0 S (ads out (fgs m)) g1 → post g1 k) : V_X12_figures n (iI m) g k post := by
  have b1 := hm.1
  have b2 := hm.2
  have hle : (0 : Int32) ≤ iI m ↔ 0 ≤ m := by rw [show (0 : Int32) = iI 0 from rfl]; exact iI_le (by decide) (by decide) (by omega) (by omega)
  have e4 : (10000 : Int32) = nI (10 ^ 4) := rfl
  unfold V_X12_figures
  rw [e4]
  refine ⟨fun c => ⟨fun _ => eqI ?_, fun c2 => absurd c c2⟩, fun c => ?_⟩
  · have hc := hle.mp c
    rw [show iI m = nI m.natAbs by rw [← iI_nat]; congr 1; omega]
    refine r_f25 (by omega) h 4 n (by decide) (by omega) (fun g1 h1 => kk g1 ?_)
    have : fgs m = f25 m.natAbs 4 := by
      show (if m < 0 then [45] else []) ++ f25 m.natAbs 4 = _
      rw [if_neg (by omega)]; rfl
    rw [this]; exact h1
  · have hc : m < 0 := by
      rcases Int.lt_or_le m 0 with z | z
      · exact z
      · exact absurd (hle.mpr z) c
    refine r_put (c := 45) (by decide) h (fun g1 h1 => ⟨fun c2 => absurd c2 c, fun _ => eqI (eqI ?_)⟩)
    rw [show -iI m = nI m.natAbs by rw [show -iI m = 0 - iI m from (Int32.zero_sub _).symm, show (0 : Int32) = iI 0 from rfl, iI_sub, ← iI_nat]; congr 1; omega]
    refine r_f25 (by omega) h1 4 n (by decide) (by omega) (fun g2 h2 => kk g2 ?_)
    have : fgs m = 45 :: f25 m.natAbs 4 := by
      show (if m < 0 then [45] else []) ++ f25 m.natAbs 4 = _
      rw [if_pos hc]; rfl
    rw [this]; exact h2
/-- an atom -/
theorem r_atom {v : Va} (hx : XOK x) (hM : MW x cv cf sv rc hp out0 inp cn g0 k) (hn : 100 ≤ n) (hv : VV x.K x.C hp v) (n4 : ¬ vkd v = 4) (n5 : ¬ vkd v = 5) (h : Pr g0 S out g) (kk : ∀ g1, Pr g0 S (ads out (txt x.sy x.nam v)) g1 → post g1 k) : V_X12_show n (enc v) g k post := by
  unfold V_X12_show
  refine r_sort hv.ok ?_
  rcases v with _ | v | v | ⟨v, v2⟩ | v | v | v
  · refine ⟨fun c => absurd c (show ¬ nI 1 = 4 by decide), fun _ => ⟨fun _ => ⟨fun _ => ⟨fun _ => ⟨fun _ => ?_, fun c => absurd c (show ¬ nI 1 = 6 by decide)⟩, fun c => absurd c (show ¬ nI 1 = 3 by decide)⟩, fun c => absurd c (show ¬ nI 1 = 2 by decide)⟩, fun c => absurd c (show ¬ nI 1 = 5 by decide)⟩⟩
    rw [show (1815788 : Int64) = lN 1815788 from rfl]
    refine r_let (by decide) (by omega) h (fun g1 h1 => kk g1 ?_)
    have : dgt 1815788 5 = [110, 105, 108] := by decide +kernel
    rw [this] at h1; exact h1
  · refine ⟨fun c => absurd c (show ¬ nI 2 = 4 by decide), fun _ => ⟨fun _ => ⟨fun c => absurd (show nI 2 = 2 from rfl) c, fun _ => r_amount hv.1 hv.2 (r_fgs hv hn h kk)⟩, fun c => absurd c (show ¬ nI 2 = 5 by decide)⟩⟩
  · have hs : v < 40 := hv
    refine ⟨fun c => absurd c (show ¬ nI 3 = 4 by decide), fun _ => ⟨fun _ => ⟨fun _ => ⟨fun c => absurd (show nI 3 = 3 from rfl) c, fun _ => r_load (v := vsym v) hs ?_⟩, fun c => absurd c (show ¬ nI 3 = 2 by decide)⟩, fun c => absurd c (show ¬ nI 3 = 5 by decide)⟩⟩
    rw [show nI (vld (vsym v)) = nI v from rfl, nI_clamp (by omega)]
    refine ⟨vp_in_nI hs (by decide), ?_⟩
    have hSm := hM.2.2.1
    by_cases hsy : v < x.sy
    · obtain ⟨h5, hl⟩ := hx.2.2.1.2.2.2.2.2 v hsy
      have hb : nmL (x.nam v) < 2 ^ 40 := by
        have := nmL_lt 5 (x.nam v) h5 hl
        have e : (128 : Nat) ^ 5 = 34359738368 := by decide
        omega
      rw [(hSm.2.1 v hsy).1]
      refine r_let hb (by omega) h (fun g1 h1 => kk g1 ?_)
      rw [dgt_nm hl h5] at h1
      show Pr g0 S (ads out (if v < x.sy then x.nam v else [])) g1
      rw [if_pos hsy]; exact h1
    · rw [(hSm.2.2 v (by omega) hs).2, show (0 : Int64) = lN 0 from rfl]
      refine r_let (by decide) (by omega) h (fun g1 h1 => kk g1 ?_)
      rw [dgt_0] at h1
      show Pr g0 S (ads out (if v < x.sy then x.nam v else [])) g1
      rw [if_neg hsy]; exact h1
  · exact absurd (show vkd (vrd v v2) = 4 from rfl) n4
  · exact absurd (show vkd (vcel v) = 4 from rfl) n4
  · exact absurd (show vkd (vvec v) = 5 from rfl) n5
  · exact ⟨fun c => absurd c (show ¬ nI 6 = 4 by decide), fun _ => ⟨fun _ => ⟨fun _ => ⟨fun _ => ⟨fun c => absurd (show nI 6 = 6 from rfl) c, fun _ => r_put (c := 35) (by decide) h kk⟩, fun c => absurd c (show ¬ nI 6 = 3 by decide)⟩, fun c => absurd c (show ¬ nI 6 = 2 by decide)⟩, fun c => absurd c (show ¬ nI 6 = 5 by decide)⟩⟩
/-- a value is written, or a list or vector begun -/
theorem r_show {v : Va} (hx : XOK x) (hM : MW x cv cf sv rc hp out0 inp cn g0 k) (hn : 100 ≤ n) (hv : VV x.K x.C hp v) (hS : SOK x hp S) (h : Pr g0 S out g) (kk : ∀ S2 out2 g1, Pr g0 S2 out2 g1 → SOK x hp S2 → RS x rc hp S2 out2 = RS x rc hp S (SH x rc hp (8 - S.length) v out) → out.length ≤ out2.length → (S2 = S ∨ (∃ w, S2 = (w, 0) :: S ∧ (out2.length = out.length + 1 ∨ 200 ≤ out2.length))) → post g1 k) : V_X12_show n (enc v) g k post := by
  obtain ⟨a1, a2, a3, a4, a5, a6, a7⟩ := id h
  have hk7 := va_kd_lt v
  by_cases n45 : vkd v = 4 ∨ vkd v = 5
  case neg =>
    refine r_atom hx hM hn hv (fun c => n45 (Or.inl c)) (fun c => n45 (Or.inr c)) h (fun g1 h1 => kk S _ g1 h1 hS ?_ (ads_le _ _) (Or.inl rfl))
    congr 1
    cases 8 - S.length with
    | zero =>
      show _ = (if vkd v = 4 ∨ vkd v = 5 then add1 out 42 else ads out (txt x.sy x.nam v))
      rw [if_neg n45]
    | succ e =>
      show _ = (if vkd v = 4 then _ else if vkd v = 5 then _ else ads out (txt x.sy x.nam v))
      rw [if_neg (fun c => n45 (Or.inl c)), if_neg (fun c => n45 (Or.inr c))]
  -- deep enough
  have s15 : V_X12_show_15 post n (enc v) (nI (vkd v)) g k := by
    unfold V_X12_show_15
    rw [a5]
    refine ⟨fun c8 => ?_, fun c8 => ?_⟩
    · have h8 : S.length ≤ 7 := by
        have : S.length ≠ 8 := fun e => c8 (by rw [e]; rfl)
        omega
      have push : ∀ c : Nat, c < 128 → (RS x rc hp S (ctn (prp rc hp) (vel hp) (txt x.sy x.nam) (7 - S.length) v 0 (add1 out c)) = RS x rc hp S (SH x rc hp (8 - S.length) v out)) → V_X12_show_44 post n (enc v) (nI c) g k := fun c hc heq => by
        unfold V_X12_show_44
        refine r_put hc h (fun g1 h1 => ?_)
        obtain ⟨b1, b2, b3, b4, b5, b6, b7⟩ := h1
        have e26 : (up g1 25 S.length (enc v)) 0 26 = nI S.length := b5
        rw [b5, nI_clamp (by omega)]
        refine ⟨vp_in_nI (by omega) (by decide), eqI ?_⟩
        rw [e26, nI_clamp (by omega)]
        refine ⟨vp_in_nI (by omega) (by decide), eqI (eqI ?_)⟩
        have e26b : (up (up g1 25 S.length (enc v)) 26 S.length 0) 0 26 = nI S.length := b5
        rw [e26b, nI_1]
        refine kk ((v, 0) :: S) (add1 out c) _ ⟨fun c3 d0 d1 d2 d3 => ?_, fun j j1 j2 => ?_, ⟨b3.1, b3.2⟩, b4, rfl, ⟨?_, ?_, StkP_fr S (fun t ht => ⟨?_, ?_⟩) b6⟩, by show S.length + 1 ≤ 8; omega⟩ (fun f hf => ?_) heq add1_le (Or.inr ⟨v, rfl, ?_⟩)
        · rw [usZ d0, upB _ _ _ d3, upB _ _ _ d2]; exact b1 c3 d0 d1 d2 d3
        · rw [us4 _ _ j2]; exact b2 j j1 j2
        · exact updE _ _ _
        · exact updE _ _ _
        · show upd (g1 25) S.length (enc v) t = _
          rw [updN _ _ (by omega)]
        · show upd (g1 26) S.length 0 t = _
          rw [updN _ _ (by omega)]
        · rcases List.mem_cons.mp hf with e | e
          · rw [e]
            refine ⟨hv, ?_⟩
            rcases n45 with n4 | n5
            · exact Or.inl ⟨n4, Or.inl rfl⟩
            · exact Or.inr ⟨n5, 0, rfl, Nat.zero_le _⟩
          · exact hS f e
        · rcases Nat.lt_or_ge out.length 200 with z | z
          · exact Or.inl (add1_lt z)
          · right; rw [add1_full z]; exact z
      have e8 : 8 - S.length = (7 - S.length) + 1 := by omega
      refine ⟨fun c4 => push 91 (by decide) ?_, fun c4 => push 40 (by decide) ?_⟩
      · have n5 : vkd v = 5 := by
          rcases n45 with n4 | n5
          · exact absurd (by rw [n4]; rfl) c4
          · exact n5
        rw [e8]
        congr 1
        show (if vkd v = 4 then _ else vlp (shw (prp rc hp) (vel hp) (txt x.sy x.nam) (7 - S.length)) (decide ((0 : Int) = 0)) ((vel hp v).drop (0 : Int).toNat) (add1 out 91)) = (if vkd v = 4 then _ else if vkd v = 5 then vlp (fun w o => shw (prp rc hp) (vel hp) (txt x.sy x.nam) (7 - S.length) w o) true (vel hp v) (add1 out 91) else _)
        rw [if_neg (by omega), if_neg (by omega), if_pos n5]; rfl
      · have n4 : vkd v = 4 := (nI_eq (b := 4) (by omega) (by decide)).mp c4
        rw [e8]
        congr 1
        show (if vkd v = 4 then (if (0 : Int) = 0 then lop (prp rc hp) (shw (prp rc hp) (vel hp) (txt x.sy x.nam) (7 - S.length)) 200 (prp rc hp v).2 (shw (prp rc hp) (vel hp) (txt x.sy x.nam) (7 - S.length) (prp rc hp v).1 (add1 out 40)) else _) else _) = (if vkd v = 4 then lop (prp rc hp) (fun w o => shw (prp rc hp) (vel hp) (txt x.sy x.nam) (7 - S.length) w o) 200 (prp rc hp v).2 (shw (prp rc hp) (vel hp) (txt x.sy x.nam) (7 - S.length) (prp rc hp v).1 (add1 out 40)) else _)
        rw [if_pos n4, if_pos rfl, if_pos n4]
    · have h8 : S.length = 8 := (nI_eq (b := 8) (by omega) (by decide)).mp c8
      refine r_put (c := 42) (by decide) h (fun g1 h1 => kk S _ g1 h1 hS ?_ add1_le (Or.inl rfl))
      rw [h8]
      congr 1
      show _ = (if vkd v = 4 ∨ vkd v = 5 then add1 out 42 else _)
      rw [if_pos n45]
  unfold V_X12_show
  refine r_sort hv.ok ⟨fun _ => s15, fun c4 => ⟨fun c5 => ?_, fun _ => s15⟩⟩
  rcases n45 with n4 | n5
  · exact absurd (by rw [n4]; rfl) c4
  · exact absurd (by rw [n5]; rfl) c5
end PM
