-- ===== the end of an atom =====
def SF (h h1 : St) : Prop := ∀ b, b < 5 → h1 b = h b
def SNew (sy : Nat) (l : List Nat) (h h1 : St) : Prop := ∃ r : Nat → Int32, (∀ t, t < l.length → r (5 * sy + t) = nI (l.getD t 0)) ∧ (∀ t, t < 5 * sy → r t = h 1 t) ∧ h1 0 0 = nI (sy + 1) ∧ h1 1 = r ∧ h1 2 = upd (h 2) sy (nI l.length) ∧ h1 3 = upd (h 3) sy (nI (opx l)) ∧ h1 4 = h 4
def SStep (sy : Nat) (l : List Nat) (h h1 : St) (b : Bool) : Prop := if b then SNew sy l h h1 else SF h h1
theorem ac_nm {l : List Nat} (hl : ∀ x ∈ l, isAc x = true) : nmOK l := fun x hx => isAc_lt (hl x hx)
theorem wd_ne0 {t : Nat} {h : Int} (ht : 0 < t) (ht2 : t < 16) (h1 : -134217728 ≤ h) (h2 : h < 134217728) : ¬ wd t h = 0 := by
  intro e
  have : (wd t h).toInt = 0 := by rw [e]; rfl
  rw [wd, iI_toInt (by omega) (by omega)] at this
  omega
theorem aOut_ok {sy : Nat} {nam : Nat → List Nat} {l : List Nat} {v : Va} {b : Bool} (h : aOut sy nam l = some (v, b)) (hy : sy ≤ 40) : atm (sy + (if b then 1 else 0)) v ∧ (b = true → v = vsym sy ∧ sy < 40 ∧ fnd sy nam l = none ∧ l.length ≤ 5 ∧ l ≠ [110, 105, 108]) := by
  unfold aOut at h
  split at h
  · split at h
    · rename_i hi
      cases h
      exact ⟨inr_iff.mp hi, fun c => by cases c⟩
    · cases h
  · split at h
    · cases h
      exact ⟨trivial, fun c => by cases c⟩
    · rename_i hnil
      split at h
      · cases h
      · rename_i h5
        unfold symOut at h
        split at h
        · rename_i s hs
          cases h
          exact ⟨(fnd_lt hs).1, fun c => by cases c⟩
        · rename_i hs
          split at h
          · rename_i h40
            cases h
            exact ⟨Nat.lt_succ_self _, fun _ => ⟨rfl, h40, hs, by omega, hnil⟩⟩
          · cases h
theorem atm_cw {φ : Nat → Nat} {sy : Nat} {v : Va} (h : atm sy v) (hy : sy ≤ 41) : ¬ cw φ v = 0 := by
  rcases v with _ | v | v | ⟨v, v2⟩ | v | v | v
  · exact wd_ne0 (t := 1) (h := 0) (by decide) (by decide) (by decide) (by decide)
  · simp [atm] at h
    exact wd_ne0 (t := 2) (h := v) (by decide) (by decide) (by omega) (by omega)
  · simp [atm] at h
    exact wd_ne0 (t := 3) (h := v) (by decide) (by decide) (by omega) (by omega)
  · exact absurd h (by simp [atm])
  · exact absurd h (by simp [atm])
  · exact absurd h (by simp [atm])
  · exact absurd h (by simp [atm])
theorem c_atomWord55 {N n sy : Nat} {nam : Nat → List Nat} {φ : Nat → Nat} {G : SG} {l : List Nat} {post : Int32 → SG → Prop} (hn : 200 ≤ n) (h64 : l.length ≤ 64) (h0 : G 3 0 0 = nI l.length) (h1 : ∀ i, i < l.length → G 3 1 i = nI (l.getD i 0)) (hl : ∀ x ∈ l, isAc x = true) (hnum : (dgs l && decide (fst1 l < l.length)) = false) (hnil : l ≠ [110, 105, 108])
    (hy : sy ≤ 40) (hg : G 1 0 0 = nI sy) (hn5 : ∀ s, s < sy → (nam s).length ≤ 5 ∧ nmOK (nam s) ∧ G 1 2 s = nI (nam s).length ∧ ∀ t, t < (nam s).length → G 1 1 (5 * s + t) = nI ((nam s).getD t 0))
    (k1 : ∀ v b h1, aOut sy nam l = some (v, b) → SStep sy l (G 1) h1 b → post (cw φ v) (uo G 1 h1)) (k0 : aOut sy nam l = none → ∀ h1, SF (G 1) h1 → post 0 (uo G 1 h1)) : V_X6_atomWord_55 N post n G := by
  unfold V_X6_atomWord_55
  rw [h0]
  have hA : aOut sy nam l = if 5 < l.length then none else symOut sy nam l := by
    unfold aOut
    rw [hnum, if_neg (by decide), if_neg hnil]
  have hid : ∀ u : St, u 5 = G 3 1 → uo (uo G 1 u) 3 (mx (G 3) 1 (u 5)) = uo G 1 u := by
    intro u e
    rw [e, mx_self]
    exact uo_id rfl
  have hSF : SF (G 1) (mx (G 1) 5 (G 3 1)) := by
    intro b hb
    show cond (Nat.beq b 5) _ _ = _
    cases e : Nat.beq b 5 with
    | true => have := Nat.eq_of_beq_eq_true e; omega
    | false => rfl
  have bad : aOut sy nam l = none → ∀ g_2 : SG, g_2 = uo (uo G 1 (mx (G 1) 5 (G 3 1))) 3 (mx (G 3) 1 ((mx (G 1) 5 (G 3 1)) 5)) → ((0 ≤ (-1 : Int32) → V_X10_of (3 : Int32) (-1) (fun r_5 => post r_5 g_2)) ∧ (¬ 0 ≤ (-1 : Int32) → post (0 : Int32) g_2)) := by
    intro e g2 e2
    rw [hid _ rfl] at e2
    subst e2
    exact ⟨fun c => absurd c (by decide), fun _ => k0 e _ hSF⟩
  unfold V_X9_numbered
  refine ⟨fun c => ?_, fun c => ⟨fun _ => eqI ?_, fun c2 => absurd (nI_le (b := 512) (by omega) (by decide)) c2⟩⟩
  · have := (nI_ltI (a := 5) (by decide) (by omega)).mp c
    exact bad (by rw [hA, if_pos this])
  · have h5 : l.length ≤ 5 := by
      rcases Nat.lt_or_ge 5 l.length with z | z
      · exact absurd (nI_lt (a := 5) z (by omega)) c
      · exact z
    rw [if_neg (by omega)] at hA
    refine c_numberedL (g := mx (G 1) 5 (G 3 1)) (by omega) (by decide) h5 (ac_nm hl) hy hg hn5 h1 (fun s hs => ?_) (fun hs h40 => ?_) (fun hs h40 r r1 r2 => ?_) n 0 (by omega) (Nat.zero_le _) (fun m hm => absurd hm (Nat.not_lt_zero _))
    · intro g2 e2
      rw [hid _ rfl] at e2
      subst e2
      have hs2 := (fnd_lt hs).1
      refine ⟨fun _ => ?_, fun c => absurd (nI_pos' (by omega)) c⟩
      rw [← iI_nat s]
      refine v_of (t := 3) (by decide) ?_
      exact k1 (vsym s) false _ (by rw [hA, symOut_s hs]) hSF
    · exact bad (by rw [hA, symOut_n hs, if_neg (by omega)])
    · intro g2 e2
      rw [hid _ rfl] at e2
      subst e2
      refine ⟨fun _ => ?_, fun c => absurd (nI_pos' (by omega)) c⟩
      rw [← iI_nat sy]
      refine v_of (t := 3) (by decide) ?_
      exact k1 (vsym sy) true _ (by rw [hA, symOut_n hs, if_pos h40]) ⟨r, r1, r2, rfl, rfl, rfl, rfl, rfl⟩
theorem c_atomWord {N n sy : Nat} {nam : Nat → List Nat} {φ : Nat → Nat} {G : SG} {l : List Nat} {post : Int32 → SG → Prop} (hn : 200 ≤ n) (hne : l ≠ []) (h64 : l.length ≤ 64) (h0 : G 3 0 0 = nI l.length) (h1 : ∀ i, i < l.length → G 3 1 i = nI (l.getD i 0)) (hl : ∀ x ∈ l, isAc x = true)
    (hy : sy ≤ 40) (hg : G 1 0 0 = nI sy) (hn5 : ∀ s, s < sy → (nam s).length ≤ 5 ∧ nmOK (nam s) ∧ G 1 2 s = nI (nam s).length ∧ ∀ t, t < (nam s).length → G 1 1 (5 * s + t) = nI ((nam s).getD t 0))
    (k1 : ∀ v b h1, aOut sy nam l = some (v, b) → SStep sy l (G 1) h1 b → post (cw φ v) (uo G 1 h1)) (k0 : aOut sy nam l = none → ∀ h1, SF (G 1) h1 → post 0 (uo G 1 h1)) : V_X6_atomWord N n G post := by
  unfold V_X6_atomWord V_X6_isNumber
  refine c_first hne h1 hl ?_
  have kid : ∀ x, post x (uo G 1 (G 1)) → post x G := fun x h => by rw [uo_id rfl] at h; exact h
  have hf : fst1 l ≤ 1 := by unfold fst1; split <;> omega
  refine c_isNumberL hne h64 h0 h1 hl (fun hd hlt => ?_) (fun hno => ?_) n (fst1 l) (by omega) (Nat.le_refl _) (by omega) (fun s a b => absurd b (by omega))
  · refine ⟨fun c => absurd c (by decide), fun _ => ?_⟩
    unfold V_X6_numberWord
    refine c_first hne h1 hl ?_
    refine eqI ?_
    have e0 : (0 : Int32) = iI (sg l (amt (l.take (fst1 l)))) := by
      have : amt (l.take (fst1 l)) = 0 := by
        unfold fst1
        split
        · rename_i h
          cases l with
          | nil => rfl
          | cons x l =>
            have : x = 45 := by simpa using h
            subst this; rfl
        · rfl
      rw [this]
      unfold sg; split <;> rfl
    rw [e0]
    have ha : amt (l.take (fst1 l)) ≤ 400000 := by
      unfold fst1
      split
      · rename_i h
        cases l with
        | nil => decide
        | cons x l =>
          have : x = 45 := by simpa using h
          subst this; exact (by decide : amt [45] ≤ 400000)
      · exact (by decide : amt [] ≤ 400000)
    have hA : ∀ b, inr (sgn l) = b → aOut sy nam l = if b then some (vnum (sgn l), false) else none := by
      intro b e
      unfold aOut
      rw [hd, if_pos (by simpa using hlt), e]
    refine c_numberL hne h64 h0 h1 hl hd (fun h => kid _ (k1 _ false _ (hA true h) (fun _ _ => rfl))) (fun h => kid _ (k0 (hA false h) _ (fun _ _ => rfl))) n (fst1 l) (by omega) (Nat.le_refl _) (by omega) ha
  · refine ⟨fun _ => ?_, fun c => absurd rfl c⟩
    have go : l ≠ [110, 105, 108] → V_X6_atomWord_55 N post n G := fun h => c_atomWord55 hn h64 h0 h1 hl hno h hy hg hn5 k1 k0
    rw [h0]
    refine ⟨fun c => go (fun e => c (by rw [e]; rfl)), fun c => ?_⟩
    have h3 : l.length = 3 := nI_inj (b := 3) (by omega) (by decide) c
    have hc : ∀ t x, t < 3 → x < 128 → (nI (l.getD t 0) = nI x ↔ l.getD t 0 = x) := by
      intro t x ht hx
      have := isAc_lt (getD_ac hl (t := t) (by omega))
      exact nI_eq (by omega) (by omega)
    have e0 : G 3 1 (0 : Int32).toNatClampNeg = nI (l.getD 0 0) := h1 0 (by omega)
    have e1 : G 3 1 (1 : Int32).toNatClampNeg = nI (l.getD 1 0) := h1 1 (by omega)
    have e2 : G 3 1 (2 : Int32).toNatClampNeg = nI (l.getD 2 0) := h1 2 (by omega)
    rw [e0, e1, e2]
    refine ⟨vp_in_nI (n := 0) (by decide) (by decide), fun c0 => go (fun e => c0 (by rw [e]; rfl)), fun c0 => ⟨vp_in_nI (n := 1) (by decide) (by decide), fun c1 => go (fun e => c1 (by rw [e]; rfl)), fun c1 => ⟨vp_in_nI (n := 2) (by decide) (by decide), fun c2 => go (fun e => c2 (by rw [e]; rfl)), fun c2 => ?_⟩⟩⟩
    have hnil : l = [110, 105, 108] := by
      apply ext_getD h3
      intro t ht
      have ht : t < 3 := ht
      rcases (show t = 0 ∨ t = 1 ∨ t = 2 by omega) with rfl | rfl | rfl
      · exact (hc 0 110 (by decide) (by decide)).mp c0
      · exact (hc 1 105 (by decide) (by decide)).mp c1
      · exact (hc 2 108 (by decide) (by decide)).mp c2
    rw [← wd_nil]
    refine kid _ (k1 vnil false _ ?_ (fun _ _ => rfl))
    unfold aOut
    rw [hno, if_neg (by decide), if_pos hnil]
theorem c_endAtom {N n sy fs ft rn : Nat} {nam : Nat → List Nat} {φ : Nat → Nat} {rc : Nat → Va × Va} {lv : List (Bool × List Nat)} {G : SG} {l : List Nat} {post : Int32 → SG → Prop} (hn : 300 ≤ n) (h64 : l.length ≤ 64) (h0 : G 3 0 0 = nI l.length) (h1 : ∀ i, i < l.length → G 3 1 i = nI (l.getD i 0)) (hl : ∀ x ∈ l, isAc x = true)
    (hy : sy ≤ 40) (hg : G 1 0 0 = nI sy) (hn5 : ∀ s, s < sy → (nam s).length ≤ 5 ∧ nmOK (nam s) ∧ G 1 2 s = nI (nam s).length ∧ ∀ t, t < (nam s).length → G 1 1 (5 * s + t) = nI ((nam s).getD t 0))
    (hN : 2048 ≤ N) (hN2 : N < 2 ^ 31) (hft : ft ≤ fs) (hlv : lv.length ≤ 12) (hfr : fs ≤ rn) (hb : rn + nqs lv ≤ 200) (hr : G 2 0 1 = nI (2 * (ft + (rn - fs)))) (hm : memOK (G 2) φ rc fs ft rn) (hL : LvC (G 3 2) (G 3 3) (G 3 4) φ (fun i => ft + (i - fs)) lv) (hlo : G 3 0 1 = nI lv.length) (hi : ∀ q l, (q, l) ∈ lv → ∀ x ∈ l, fs ≤ x ∧ x < rn)
    (kE : l = [] → post 1 G) (k1 : ∀ v b h1 a2 a3, l ≠ [] → aOut sy nam l = some (v, b) → SStep sy l (G 1) h1 b → AddR φ fs ft (G 2) (us (G 3) 0 0) a2 a3 (addV (fun i => ft + (i - fs)) lv rc rn v) → post 1 (uo (uo (uo G 1 h1) 2 a2) 3 a3)) (k0 : l ≠ [] → aOut sy nam l = none → ∀ h1, SF (G 1) h1 → post 0 (uo (uo G 1 h1) 3 (us (G 3) 0 0))) : V_X6_endAtom N n G post := by
  unfold V_X6_endAtom
  rw [h0]
  refine ⟨fun c => ?_, fun c => kE (List.length_eq_zero_iff.mp (nI_inj (b := 0) (by omega) (by decide) c))⟩
  have hne : l ≠ [] := fun e => c (by rw [e]; rfl)
  refine c_atomWord (φ := φ) (by omega) hne h64 h0 h1 hl hy hg hn5 (fun v b h1 ha hs => ?_) (fun ha h1 hs => ?_)
  · refine eqI ⟨fun _ => ?_, fun c => absurd c (atm_cw (aOut_ok ha hy).1 (by split <;> omega))⟩
    unfold V_X6_addValue
    refine eqI ?_
    have e : uo (uo G 1 h1) 3 (us ((uo G 1 h1) 3) 0 0) = uo (uo (uo G 1 h1) 2 (G 2)) 3 (us (G 3) 0 0) := by
      rw [show uo (uo G 1 h1) 2 (G 2) = uo G 1 h1 from uo_id rfl]; rfl
    rw [e]
    exact c_addV hN hN2 hft lv n 0 rn rc v (G 2) (us (G 3) 0 0) (by omega) (by omega) hfr hb hr hm hL hlo hi (fun a2 a3 hA => k1 v b h1 a2 a3 hne ha hs hA)
  · refine eqI ⟨fun c => absurd rfl c, fun _ => ?_⟩
    exact k0 hne ha h1 hs
-- the reference
theorem r_end88 {n sy rn : Nat} {nam : Nat → List Nat} {o : Nat → Nat} {rc : Nat → Va × Va} {lv : List (Bool × List Nat)} {g : St} {k : StL} {l : List Nat} {post : Int32 → St → StL → Prop} (hn : 300 ≤ n) (hne : l ≠ []) (hl : ∀ x ∈ l, isAc x = true) (hk0 : k 0 0 = lN (nmL (l.take 6))) (hnum : (dgs l && decide (fst1 l < l.length)) = false)
    (hy : sy ≤ 40) (hg : g 0 2 = nI sy) (hnm : ∀ s, s < sy → (nam s).length ≤ 5 ∧ nmOK (nam s) ∧ k 1 s = lN (nmL (nam s))) (hk : ∀ i, i < 31 → k 2 i = lN (nmL (OPTX.getD (i + 1) [])))
    (ho : ∀ i, i < 300 → o i < 1024) (hlv : lv.length ≤ 12) (hb : rn + nqs lv ≤ 200) (hex : ∃ q l, (q, l) ∈ lv ∧ q = false) (hr : g 0 3 = nI rn) (hm : rowsM g rc rn) (hL : LvM (g 12) (g 13) (g 14) o lv) (hlo : g 0 7 = nI lv.length) (hi : ∀ q l, (q, l) ∈ lv → ∀ x ∈ l, x < rn)
    (k1 : ∀ v b g1 kk a, aOut sy nam l = some (v, b) → g1 = (if b then us (up g 1 sy (nI (opR (opx l)))) 2 (nI (sy + 1)) else g) → kk = (if b then upL k 1 sy (lN (nmL l)) else k) → AddM o g1 a (addV o lv rc rn v) → post 1 a kk) (k0 : aOut sy nam l = none → post 0 g k) : V_X12_endAtom_88 post n (nI (min 6 l.length)) g k := by
  have hA : aOut sy nam l = if l = [110, 105, 108] then some (vnil, false) else if 5 < l.length then none else symOut sy nam l := by
    unfold aOut
    rw [hnum, if_neg (by decide)]
  unfold V_X12_endAtom_88
  refine ⟨fun c => ?_, fun c => k0 ?_⟩
  · have h5 : l.length ≤ 5 := by
      have := (nI_leI (b := 5) (by omega) (by decide)).mp c
      omega
    rw [List.take_of_length_le (by omega)] at hk0
    rw [hk0, show (1815788 : Int64) = lN (nmL [110, 105, 108]) from rfl]
    have hcmp := cmp_nm (l := l) (m := [110, 105, 108]) (by omega) (by decide) (ac_nm hl) (by intro x hx; simp at hx; omega)
    refine ⟨fun c2 => ?_, fun c2 => ?_⟩
    · have hnil : l ≠ [110, 105, 108] := fun e => c2 (hcmp.mpr e)
      rw [if_neg hnil, if_neg (by omega)] at hA
      unfold V_X12_symbolOf
      refine eqI ?_
      refine r_symL (ac_nm hl) h5 hy hg hnm hk (fun s hs => ?_) (fun hs h40 => ?_) (fun hs h40 => ?_) n 0 (by omega) (Nat.zero_le _) (fun m hm => absurd hm (Nat.not_lt_zero _))
      · have hs2 := (fnd_lt hs).1
        refine ⟨fun _ => ?_, fun c => absurd (nI_pos' (by omega)) c⟩
        rw [show (3 : Int32) = nI 3 from rfl]
        refine r_code (v := vsym s) (by show s < 40; omega) rfl rfl ?_
        unfold V_X12_add
        exact r_addV ho lv n rn rc (vsym s) g (by omega) hlv hb hex hr hm hL hlo hi (fun a ha => k1 (vsym s) false g k a (by rw [hA, symOut_s hs]) rfl rfl ha)
      · exact ⟨fun c => absurd c (by decide), fun _ => k0 (by rw [hA, symOut_n hs, if_neg (by omega)])⟩
      · refine ⟨fun _ => ?_, fun c => absurd (nI_pos' (by omega)) c⟩
        rw [show (3 : Int32) = nI 3 from rfl]
        refine r_code (v := vsym sy) (by show sy < 40; omega) rfl rfl ?_
        unfold V_X12_add
        exact r_addV ho lv n rn rc (vsym sy) _ (by omega) hlv hb hex hr hm hL hlo hi (fun a ha => k1 (vsym sy) true _ _ a (by rw [hA, symOut_n hs, if_pos h40]) rfl rfl ha)
    · have hnil : l = [110, 105, 108] := hcmp.mp c2
      rw [if_pos hnil] at hA
      unfold V_X12_add
      rw [show (1048576 : Int32) = enc vnil from rfl]
      exact r_addV ho lv n rn rc vnil g (by omega) hlv hb hex hr hm hL hlo hi (fun a ha => k1 vnil false g k a hA rfl rfl ha)
  · have h5 : 5 < l.length := by
      rcases Nat.lt_or_ge 5 l.length with z | z
      · exact z
      · exact absurd (nI_le (b := 5) (by omega) (by decide)) c
    rw [hA, if_neg (by intro e; rw [e] at h5; exact absurd h5 (by decide)), if_pos h5]
theorem r_endAtom {n sy rn : Nat} {nam : Nat → List Nat} {o : Nat → Nat} {rc : Nat → Va × Va} {lv : List (Bool × List Nat)} {g : St} {k : StL} {l : List Nat} {post : Int32 → St → StL → Prop} (hn : 300 ≤ n) (hl : ∀ x ∈ l, isAc x = true) (h8 : g 0 8 = nI (min 6 l.length)) (hat : l ≠ [] → k 0 0 = lN (nmL (l.take 6)) ∧ g 0 9 = (if dgs l then 1 else 0) ∧ g 0 10 = (if l.head? = some 45 then 1 else 0) ∧ g 0 11 = nI (amt l))
    (hy : sy ≤ 40) (hg : g 0 2 = nI sy) (hnm : ∀ s, s < sy → (nam s).length ≤ 5 ∧ nmOK (nam s) ∧ k 1 s = lN (nmL (nam s))) (hk : ∀ i, i < 31 → k 2 i = lN (nmL (OPTX.getD (i + 1) [])))
    (ho : ∀ i, i < 300 → o i < 1024) (hlv : lv.length ≤ 12) (hb : rn + nqs lv ≤ 200) (hex : l ≠ [] → ∃ q l, (q, l) ∈ lv ∧ q = false) (hr : g 0 3 = nI rn) (hm : rowsM g rc rn) (hL : LvM (g 12) (g 13) (g 14) o lv) (hlo : g 0 7 = nI lv.length) (hi : ∀ q l, (q, l) ∈ lv → ∀ x ∈ l, x < rn)
    (kE : l = [] → post 1 g k) (k1 : ∀ v b g1 kk a, l ≠ [] → aOut sy nam l = some (v, b) → g1 = (if b then us (up (us g 8 0) 1 sy (nI (opR (opx l)))) 2 (nI (sy + 1)) else us g 8 0) → kk = (if b then upL k 1 sy (lN (nmL l)) else k) → AddM o g1 a (addV o lv rc rn v) → post 1 a kk) (k0 : l ≠ [] → aOut sy nam l = none → post 0 (us g 8 0) k) : V_X12_endAtom n g k post := by
  unfold V_X12_endAtom
  rw [h8]
  refine ⟨fun c => ?_, fun c => kE (List.length_eq_zero_iff.mp (by have := nI_inj (b := 0) (by omega) (by decide) c; omega))⟩
  have hne : l ≠ [] := fun e => c (by rw [e]; rfl)
  have hp : 0 < l.length := List.length_pos_iff.mpr hne
  obtain ⟨e0, e9, e10, e11⟩ := hat hne
  refine eqI (eqI ?_)
  have f9 : (us g 8 0) 0 9 = (if dgs l then 1 else 0) := e9
  have f10 : (us g 8 0) 0 10 = (if l.head? = some 45 then 1 else 0) := e10
  have f11 : (us g 8 0) 0 11 = nI (amt l) := e11
  rw [f9, f10, f11]
  have go : (dgs l && decide (fst1 l < l.length)) = false → V_X12_endAtom_88 post n (nI (min 6 l.length)) (us g 8 0) k := fun h => r_end88 hn hne hl e0 h hy hg hnm hk ho hlv hb (hex hne) hr hm hL hlo hi (fun v b g1 kk a ha h1 h2 h3 => k1 v b g1 kk a hne ha h1 h2 h3) (k0 hne)
  have hamt := amt_lt l.length l (Nat.le_refl _)
  have num : dgs l = true → fst1 l < l.length → ∀ y, y = iI (sgn l) → V_X12_endAtom_61 post n y (us g 8 0) k := by
    intro hd hlt y ey
    subst ey
    have hs : -1000010 ≤ sgn l ∧ sgn l ≤ 1000010 := by unfold sgn; split <;> omega
    have hA : ∀ b, inr (sgn l) = b → aOut sy nam l = if b then some (vnum (sgn l), false) else none := by
      intro b e
      unfold aOut
      rw [hd, if_pos (by simpa using hlt), e]
    unfold V_X12_endAtom_61
    rw [litm, litM]
    refine ⟨fun c => k0 hne (hA false (inr_no.mpr (Or.inl ((iI_lt (by omega) (by omega) (by decide) (by decide)).mp c)))), fun c => ⟨fun c2 => ?_, fun c2 => k0 hne (hA false (inr_no.mpr (Or.inr ?_)))⟩⟩
    · have a1 : ¬ sgn l < -32768 := fun z => c ((iI_lt (by omega) (by omega) (by decide) (by decide)).mpr z)
      have a2 : sgn l ≤ 32767 := (iI_le (by omega) (by omega) (by decide) (by decide)).mp c2
      refine r_numeral (by omega) a2 ?_
      unfold V_X12_add
      exact r_addV ho lv n rn rc (vnum (sgn l)) (us g 8 0) (by omega) hlv hb (hex hne) hr hm hL hlo hi (fun a ha => k1 _ false _ _ a hne (hA true (inr_iff.mpr ⟨by omega, a2⟩)) rfl rfl ha)
    · have : ¬ sgn l ≤ 32767 := fun z => c2 ((iI_le (by omega) (by omega) (by decide) (by decide)).mpr z)
      omega
  cases hd : dgs l with
  | false => exact ⟨fun _ => go (by rw [hd]; rfl), fun c => absurd rfl c⟩
  | true =>
    refine ⟨fun c => absurd c (by decide), fun _ => ?_⟩
    by_cases hh : l.head? = some 45
    · have hf : fst1 l = 1 := if_pos hh
      rw [if_pos hh]
      refine ⟨fun c => absurd c (by decide), fun _ => ⟨fun c => ?_, fun c => ⟨fun c2 => absurd c2 (by decide), fun _ => ?_⟩⟩⟩
      · have := (nI_leI (b := 1) (by omega) (by decide)).mp c
        exact go (by rw [hf]; simp; omega)
      · refine num hd (by
          rw [hf]
          rcases Nat.lt_or_ge 1 l.length with z | z
          · exact z
          · exact absurd (nI_le (b := 1) (by omega) (by decide)) c) _ ?_
        rw [← iI_nat, show -(iI (amt l : Int)) = iI (-(amt l : Int)) from (Int32.ofInt_neg _).symm]
        unfold sgn
        rw [if_pos hh]
    · have hf : fst1 l = 0 := if_neg hh
      rw [if_neg hh]
      refine ⟨fun _ => ⟨fun c => absurd c (nI_nle (by omega) (by omega)), fun _ => ⟨fun _ => ?_, fun c => absurd rfl c⟩⟩, fun c => absurd rfl c⟩
      refine num hd (by omega) _ ?_
      rw [← iI_nat]
      unfold sgn
      rw [if_neg hh]
