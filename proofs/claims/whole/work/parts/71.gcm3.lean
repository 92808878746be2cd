section GM3
variable {g0 : St} {k : StL} {P : Nat → Prop} {hp : Nat → Option Ob}
/-- all objects within P are known -/
def ObsG (g0 : St) (P : Nat → Prop) (hp : Nat → Option Ob) : Prop := ∀ s, P s → ∃ o, hp s = some o ∧ ObG g0 P s o
def Cl (hp : Nat → Option Ob) (M : Nat → Bool) : Prop := ∀ s o, s < 168 → M s = true → hp s = some o → orfs M o
theorem Mk_0 {M : Nat → Bool} {s : Nat} (h : Mk M s = 0) : M s = false := by
  cases e : M s with
  | false => rfl
  | true => unfold Mk at h; rw [e] at h; exact absurd h (by decide)
theorem Mk_1 {M : Nat → Bool} {s : Nat} (h : ¬ Mk M s = 0) : M s = true := by
  cases e : M s with
  | true => rfl
  | false => unfold Mk at h; rw [e] at h; exact absurd rfl h
theorem lt168 {i : Nat} (hi : i ≤ 168) (c : ¬ (168 : Int32) ≤ nI i) : i < 168 := by
  rcases Nat.lt_or_ge i 168 with z | z
  · exact z
  · exact absurd ((nI_leI (a := 168) (b := i) (by decide) (by omega)).mpr z) c
theorem ge168 {i : Nat} (hi : i ≤ 168) (c : (168 : Int32) ≤ nI i) : i = 168 := by
  have := (nI_leI (a := 168) (b := i) (by decide) (by omega)).mp c
  omega
/-- one pass over what is marked -/
theorem r_pass {K158 : Int32 → St → StL → Prop} {post : St → StL → Prop} {x : Int32} {M0 : Nat → Bool} (hO : ObsG g0 P hp) (kk : ∀ g1 M1, MkR g0 g1 M1 → Sub M1 P → leM M0 M1 → (∀ s o, s < 168 → M0 s = true → hp s = some o → orfs M1 o) → K158 x g1 k) :
    ∀ (n i : Nat) (g : St) (M : Nat → Bool), 168 - i + 100 < n → i ≤ 168 → MkR g0 g M → Sub M P → leM M0 M → (∀ s o, s < i → M0 s = true → hp s = some o → orfs M o) → V_X12_gather_173 K158 post n x (nI i) g k
  | 0, i, g, M => fun h => absurd h (by omega)
  | n + 1, i, g, M => by
    intro h1 h2 hM hS h0 hd
    unfold V_X12_gather_173
    refine ⟨fun c => ?_, fun c => ?_⟩
    · have := ge168 h2 c
      subst this
      exact kk g M hM hS h0 hd
    · have hi := lt168 h2 c
      rw [nI_clamp (by omega), hM.2 i hi, nI_1]
      refine ⟨vp_in_nI hi (by decide), fun c => eqI ?_, fun c => ?_⟩
      · have e := Mk_0 c
        refine r_pass hO kk n (i + 1) g M (by omega) hi hM hS h0 (fun s o a b d => ?_)
        by_cases e2 : s = i
        · subst e2; rw [h0 s b] at e; cases e
        · exact hd s o (by omega) b d
      · obtain ⟨o, ho, hg⟩ := hO i (hS i (Mk_1 c))
        refine r_within (by omega) hg hM hS (fun g1 M1 A B C D => eqI ?_)
        refine r_pass hO kk n (i + 1) g1 M1 (by omega) hi A B (leM_tr h0 C) (fun s o1 a b d => ?_)
        by_cases e2 : s = i
        · subst e2; rw [ho] at d; cases d; exact D
        · exact orfs_le (hd s o1 (by omega) b d) C
def hpM (hp : Nat → Option Ob) (M : Nat → Bool) : Nat → Option Ob := fun s => if M s then hp s else none
/-- what a collection comes to in the reference -/
def GRm (g0 g1 : St) (hp : Nat → Option Ob) (M : Nat → Bool) : Prop := (∀ c, c ≠ 0 → c ≠ 8 → c ≠ 11 → g1 c = g0 c) ∧ (∀ i, i ≠ 4 → i ≠ 5 → i ≠ 6 → g1 0 i = g0 0 i) ∧ g1 0 4 = nI (usum (hpM hp M) 168) ∧ g1 0 5 = g0 0 5 + 1 ∧ g1 0 6 = nI (usum (hpM hp M) 168) ∧ ∀ s, s < 168 → g1 8 s = if M s then g0 8 s else 0
theorem r_sweep {post : St → StL → Prop} {M : Nat → Bool} (hO : ObsG g0 P hp) (hS : Sub M P) (kk : ∀ g1, GRm g0 g1 hp M → post g1 k) :
    ∀ (n i : Nat) (g : St), 168 - i < n → i ≤ 168 → (∀ c, c ≠ 0 → c ≠ 8 → c ≠ 11 → g c = g0 c) → (∀ i, i ≠ 4 → g 0 i = g0 0 i) → g 0 4 = nI (usum (hpM hp M) i) → (∀ s, s < 168 → g 8 s = if s < i ∧ M s = false then 0 else g0 8 s) → (∀ s, s < 168 → g 11 s = Mk M s) → V_X12_gather_210 post n (nI i) g k
  | 0, i, g => fun h => absurd h (by omega)
  | n + 1, i, g => by
    intro h1 h2 a1 a2 a3 a4 a5
    unfold V_X12_gather_210
    refine ⟨fun c => ?_, fun c => ?_⟩
    · have := ge168 h2 c
      subst this
      refine eqI (eqI (kk _ ⟨fun c b0 b8 b11 => ?_, fun i b4 b5 b6 => ?_, ?_, ?_, ?_, fun s hs => ?_⟩))
      · rw [usZ b0, usZ b0]; exact a1 c b0 b8 b11
      · rw [us0, if_neg b6, us0, if_neg b5]; exact a2 i b4
      · exact a3
      · show g 0 5 + 1 = _
        rw [a2 5 (by decide)]
      · exact a3
      · show g 8 s = _
        rw [a4 s hs]
        cases e : M s with
        | true => rw [if_neg (fun z => by cases z.2), if_pos rfl]
        | false => rw [if_pos ⟨hs, rfl⟩]; rfl
    · have hi := lt168 h2 c
      rw [nI_clamp (by omega), a5 i hi, nI_1]
      refine ⟨vp_in_nI hi (by decide), fun c => ⟨vp_in_nI hi (by decide), eqI (eqI ?_)⟩, fun c => ⟨vp_in_nI hi (by decide), eqI (eqI ?_)⟩⟩
      · have e := Mk_1 c
        obtain ⟨o, ho, hg⟩ := hO i (hS i e)
        refine r_sweep hO hS kk n (i + 1) _ (by omega) hi (fun c b0 b8 b11 => ?_) (fun j b4 => ?_) ?_ (fun s hs => ?_) (fun s hs => ?_)
        · rw [usZ b0]; exact a1 c b0 b8 b11
        · rw [us0, if_neg b4]; exact a2 j b4
        · show g 0 4 + g 9 i = _
          rw [a3, a1 9 (by decide) (by decide) (by decide), hg.2.1.2.1, nI_add]
          show _ = nI (usum (hpM hp M) i + olo (hpM hp M) i)
          have : olo (hpM hp M) i = olen o := by unfold olo hpM; rw [e, if_pos rfl, ho]
          rw [this]
        · rw [usZ (by decide), a4 s hs]
          by_cases e2 : s = i
          · subst e2; rw [if_neg (by omega), if_neg (fun z => by rw [e] at z; cases z.2)]
          · by_cases e3 : s < i ∧ M s = false
            · rw [if_pos e3, if_pos ⟨by omega, e3.2⟩]
            · rw [if_neg e3, if_neg (fun z => e3 ⟨by omega, z.2⟩)]
        · rw [usZ (by decide)]; exact a5 s hs
      · have e := Mk_0 c
        refine r_sweep hO hS kk n (i + 1) _ (by omega) hi (fun c b0 b8 b11 => ?_) (fun j b4 => ?_) ?_ (fun s hs => ?_) (fun s hs => ?_)
        · rw [upB _ _ _ b8]; exact a1 c b0 b8 b11
        · rw [upB _ _ _ (by decide)]; exact a2 j b4
        · rw [upB _ _ _ (by decide), a3]
          show _ = nI (usum (hpM hp M) i + olo (hpM hp M) i)
          have : olo (hpM hp M) i = 0 := by unfold olo hpM; rw [e]; rfl
          rw [this]; rfl
        · rw [upA]
          by_cases e2 : s = i
          · subst e2; rw [updE, if_pos ⟨by omega, e⟩]
          · rw [updN _ _ e2, a4 s hs]
            by_cases e3 : s < i ∧ M s = false
            · rw [if_pos e3, if_pos ⟨by omega, e3.2⟩]
            · rw [if_neg e3, if_neg (fun z => e3 ⟨by omega, z.2⟩)]
        · rw [upB _ _ _ (by decide)]; exact a5 s hs
/-- marking until nothing is new -/
theorem r_fix {post : St → StL → Prop} {R : (Nat → Bool) → Prop} (hO : ObsG g0 P hp) (hR : ∀ M M1, leM M M1 → R M → R M1) (hP168 : ∀ s, P s → s < 168) (kk : ∀ g1 M, Sub M P → R M → Cl hp M → GRm g0 g1 hp M → post g1 k) :
    ∀ (n : Nat) (x : Int32) (g : St) (M : Nat → Bool), (600 + 2 * (169 - cnt M 168) ≤ n ∨ (x = nI (cnt M 168) ∧ 500 ≤ n)) → MkR g0 g M → Sub M P → R M → (x = -1 ∨ ∃ c, x = nI c ∧ c ≤ cnt M 168 ∧ (c = cnt M 168 → Cl hp M)) → V_X12_gather_158 post n x g k
  | 0, x, g, M => fun h => absurd h (by omega)
  | n + 1, x, g, M => by
    intro hn hM hS hRM hx
    have hc := cnt_le M 168
    unfold V_X12_gather_158
    refine r_marks hM (by omega) ⟨fun c => eqI (eqI ?_), fun c => ?_⟩
    · have hcl : Cl hp M := by
        rcases hx with hx | ⟨d, hx, hd, hcl⟩
        · rw [hx] at c
          have : (-1 : Int32).toInt = (nI (cnt M 168)).toInt := by rw [← c]
          rw [nI_toInt (by omega)] at this
          exact absurd this (by show ¬ (-1 : Int) = _; omega)
        · rw [hx] at c
          exact hcl ((nI_eq (by omega) (by omega)).mp c)
      refine r_sweep hO hS (fun g1 h => kk g1 M hS hRM hcl h) n 0 _ (by omega) (Nat.zero_le _) (fun c b0 b8 b11 => ?_) (fun i b4 => ?_) rfl (fun s hs => ?_) (fun s hs => ?_)
      · rw [usZ b0]; exact hM.1 c b11
      · rw [us0, if_neg b4, hM.1 0 (by decide)]
      · rw [usZ (by decide), hM.1 8 (by decide), if_neg (by omega)]
      · rw [usZ (by decide)]; exact hM.2 s hs
    · have hbig : 600 + 2 * (169 - cnt M 168) ≤ n + 1 := by
        rcases hn with hn | hn
        · exact hn
        · exact absurd hn.1 c
      refine r_marks hM (by omega) (eqI ?_)
      refine r_pass hO (fun g1 M1 A B C D => ?_) n 0 g M (by omega) (Nat.zero_le _) hM hS (fun _ h => h) (fun s o h => absurd h (Nat.not_lt_zero _))
      obtain ⟨m1, m2⟩ := cnt_mono C 168
      have hc1 := cnt_le M1 168
      refine r_fix hO hR hP168 kk n _ g1 M1 ?_ A B (hR _ _ C hRM) (Or.inr ⟨_, rfl, m1, fun e s o hs h1 h2 => D s o hs (m2 e s hs h1) h2⟩)
      by_cases e : cnt M 168 = cnt M1 168
      · exact Or.inr ⟨by rw [e], by omega⟩
      · exact Or.inl (by omega)
end GM3
