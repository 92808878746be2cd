-- ===== what an atom reads as =====
def fst1 (l : List Nat) : Nat := if l.head? = some 45 then 1 else 0
def sgn (l : List Nat) : Int := if l.head? = some 45 then -(amt l : Int) else amt l
def inr (n : Int) : Bool := decide (-32768 ≤ n) && decide (n ≤ 32767)
def symOut (sy : Nat) (nam : Nat → List Nat) (l : List Nat) : Option (Va × Bool) :=
  match fnd sy nam l with
  | some s => some (vsym s, false)
  | none => if sy < 40 then some (vsym sy, true) else none
theorem symOut_s {sy s : Nat} {nam : Nat → List Nat} {l : List Nat} (h : fnd sy nam l = some s) : symOut sy nam l = some (vsym s, false) := by unfold symOut; rw [h]
theorem symOut_n {sy : Nat} {nam : Nat → List Nat} {l : List Nat} (h : fnd sy nam l = none) : symOut sy nam l = if sy < 40 then some (vsym sy, true) else none := by unfold symOut; rw [h]
def aOut (sy : Nat) (nam : Nat → List Nat) (l : List Nat) : Option (Va × Bool) :=
  if dgs l && decide (fst1 l < l.length) then (if inr (sgn l) then some (vnum (sgn l), false) else none)
  else if l = [110, 105, 108] then some (vnil, false)
  else if 5 < l.length then none
  else symOut sy nam l
theorem isDg_iff {x : Nat} : isDg x = true ↔ 48 ≤ x ∧ x ≤ 57 := by simp [isDg]
theorem inr_iff {n : Int} : inr n = true ↔ -32768 ≤ n ∧ n ≤ 32767 := by simp [inr]
theorem inr_no {n : Int} : inr n = false ↔ (n < -32768 ∨ 32767 < n) := by
  cases h : inr n with
  | true => have := inr_iff.mp h; simp; omega
  | false =>
    simp
    rcases Decidable.em (-32768 ≤ n ∧ n ≤ 32767) with z | z
    · exact absurd (inr_iff.mpr z) (by rw [h]; decide)
    · omega
theorem isAc_lt {x : Nat} (h : isAc x = true) : 0 < x ∧ x < 128 := by
  simp [isAc, isDg] at h; omega
theorem getD_ac {l : List Nat} (hl : ∀ x ∈ l, isAc x = true) {t : Nat} (ht : t < l.length) : isAc (l.getD t 0) = true := by
  rw [List.getD_eq_getElem?_getD, List.getElem?_eq_getElem ht]
  exact hl _ (List.getElem_mem ht)
theorem c_first {N : Nat} {G : SG} {l : List Nat} {post : Int32 → SG → Prop} (hne : l ≠ []) (h1 : ∀ i, i < l.length → G 3 1 i = nI (l.getD i 0)) (hl : ∀ x ∈ l, isAc x = true) (k : post (nI (fst1 l)) G) : V_X6_firstDigit N G post := by
  unfold V_X6_firstDigit
  have hp : 0 < l.length := List.length_pos_iff.mpr hne
  have e0 : G 3 1 (0 : Int32).toNatClampNeg = nI (l.getD 0 0) := h1 0 hp
  have hb := isAc_lt (getD_ac hl hp)
  rw [e0]
  have eh : l.head? = some (l.getD 0 0) := by
    cases l with
    | nil => exact absurd rfl hne
    | cons x l => rfl
  refine ⟨vp_in_nI (n := 0) (by decide) (by decide), fun c => ?_, fun c => ?_⟩
  · have : ¬ l.head? = some 45 := by
      rw [eh]; intro e; exact c (by rw [Option.some.inj e]; rfl)
    have e : fst1 l = 0 := if_neg this
    rw [e] at k; exact k
  · have : l.getD 0 0 = 45 := nI_inj (b := 45) (by omega) (by decide) c
    have e : fst1 l = 1 := if_pos (by rw [eh, this])
    rw [e] at k; exact k
theorem dgs_iff {l : List Nat} (hne : l ≠ []) : dgs l = true ↔ ∀ t, fst1 l ≤ t → t < l.length → isDg (l.getD t 0) = true := by
  cases l with
  | nil => exact absurd rfl hne
  | cons x l =>
    have hd : dgs (x :: l) = ((isDg x || x == 45) && l.all isDg) := rfl
    rw [hd, Bool.and_eq_true, List.all_eq_true]
    have hg : ∀ t, (x :: l).getD (t + 1) 0 = l.getD t 0 := fun t => rfl
    constructor
    · rintro ⟨h1, h2⟩ t ht1 ht2
      cases t with
      | zero =>
        have : ¬ x = 45 := by
          intro e
          have : fst1 (x :: l) = 1 := if_pos (by rw [e]; rfl)
          omega
        simp [this] at h1
        exact h1
      | succ t =>
        rw [hg]
        have ht2 : t + 1 < l.length + 1 := ht2
        rw [List.getD_eq_getElem?_getD, List.getElem?_eq_getElem (by omega)]
        exact h2 _ (List.getElem_mem _)
    · intro h
      refine ⟨?_, fun y hy => ?_⟩
      · by_cases e : x = 45
        · simp [e]
        · have e0 : fst1 (x :: l) = 0 := if_neg (by simpa using e)
          have := h 0 (by omega) (by simp)
          have : isDg x = true := this
          simp [this]
      · obtain ⟨t, ht, rfl⟩ := List.getElem_of_mem hy
        have := h (t + 1) (by have : fst1 (x :: l) ≤ 1 := by { unfold fst1; split <;> omega }; omega) (by show t + 1 < l.length + 1; omega)
        rw [hg, List.getD_eq_getElem?_getD, List.getElem?_eq_getElem ht] at this
        exact this
theorem c_isNumberL {N : Nat} {G : SG} {l : List Nat} {post : Int32 → SG → Prop} (hne : l ≠ []) (h64 : l.length ≤ 64) (h0 : G 3 0 0 = nI l.length) (h1 : ∀ i, i < l.length → G 3 1 i = nI (l.getD i 0)) (hl : ∀ x ∈ l, isAc x = true) (k1 : dgs l = true → fst1 l < l.length → post 1 G) (k0 : (dgs l && decide (fst1 l < l.length)) = false → post 0 G) :
    ∀ (n t : Nat), 70 - t < n → fst1 l ≤ t → t ≤ max (fst1 l) l.length → (∀ s, fst1 l ≤ s → s < t → isDg (l.getD s 0) = true) → V_X6_isNumber_7 N post n (nI (fst1 l)) (nI t) G
  | 0, t => fun h => absurd h (by omega)
  | n + 1, t => by
    intro a1 a2 a3 a4
    have hf : fst1 l ≤ 1 := by unfold fst1; split <;> omega
    unfold V_X6_isNumber_7
    rw [h0]
    have fin : l.length ≤ t → ((nI l.length ≤ nI (fst1 l) → post 0 G) ∧ (¬ nI l.length ≤ nI (fst1 l) → post 1 G)) := by
      intro hle
      have hd : dgs l = true := (dgs_iff hne).mpr (fun s h2 h3 => a4 s h2 (by omega))
      refine ⟨fun c => k0 ?_, fun c => k1 hd ?_⟩
      · have := (nI_leI (by omega) (by omega)).mp c
        rw [hd]; simp; omega
      · rcases Nat.lt_or_ge (fst1 l) l.length with z | z
        · exact z
        · exact absurd (nI_le z (by omega)) c
    refine ⟨fun c => fin ((nI_leI (by omega) (by omega)).mp c), fun c => ⟨fun c2 => absurd c2 (nI_ge (b := 512) (by omega) (by decide)), fun _ => ?_⟩⟩
    have ht : t < l.length := by
      rcases Nat.lt_or_ge t l.length with z | z
      · exact z
      · exact absurd (nI_le z (by omega)) c
    refine ⟨vp_in_nI (by omega) (by decide), ?_⟩
    rw [nI_clamp (by omega), h1 t ht]
    have hb := isAc_lt (getD_ac hl ht)
    refine c_digit (fun h => ⟨fun _ => eqI ?_, fun c => absurd c (by decide)⟩) (fun h => ⟨fun c => absurd rfl c, fun _ => k0 ?_⟩)
    · rw [nI_toInt (by omega)] at h
      rw [nI_1]
      refine c_isNumberL hne h64 h0 h1 hl k1 k0 n (t + 1) (by omega) (by omega) (by omega) (fun s h2 h3 => ?_)
      by_cases e : s = t
      · subst e; exact isDg_iff.mpr ⟨by omega, by omega⟩
      · exact a4 s h2 (by omega)
    · rw [nI_toInt (by omega)] at h
      have : dgs l = false := by
        cases hd : dgs l with
        | false => rfl
        | true =>
          have := isDg_iff.mp ((dgs_iff hne).mp hd t a2 ht)
          omega
      rw [this]; rfl
theorem amt_mono (l : List Nat) : ∀ (m : List Nat), amt l ≤ amt (l ++ m) := by
  intro m
  induction m generalizing l with
  | nil => rw [List.append_nil]; exact Nat.le_refl _
  | cons x m ih =>
    have := ih (l ++ [x])
    rw [List.append_assoc] at this
    refine Nat.le_trans ?_ this
    rw [amt_snoc]
    split <;> omega
theorem take_snoc {l : List Nat} {t : Nat} (h : t < l.length) : l.take (t + 1) = l.take t ++ [l.getD t 0] := by
  rw [List.take_succ, List.getElem?_eq_getElem h, List.getD_eq_getElem?_getD, List.getElem?_eq_getElem h]
  rfl
def sg (l : List Nat) (n : Nat) : Int := if l.head? = some 45 then -(n : Int) else n
theorem sg_fst (l : List Nat) : (nI (fst1 l) = 1 ↔ l.head? = some 45) := by
  unfold fst1
  split
  · rename_i h; exact ⟨fun _ => h, fun _ => rfl⟩
  · rename_i h; exact ⟨fun c => absurd c (by decide), fun c => absurd c h⟩
theorem litM : (32767 : Int32) = iI 32767 := rfl
theorem c_range {n : Int} {post : Int32 → Prop} (h1 : -2147483648 ≤ n) (h2 : n < 2147483648) (k1 : inr n = true → post 1) (k0 : inr n = false → post 0) : V_X11_isInRange (iI n) post := by
  unfold V_X11_isInRange
  rw [litm, litM]
  refine ⟨fun c => k0 ?_, fun c => ⟨fun c2 => k0 ?_, fun c2 => k1 ?_⟩⟩
  · have := (iI_lt h1 h2 (by decide) (by decide)).mp c
    simp [inr]; omega
  · have := (iI_lt (by decide) (by decide) h1 h2).mp c2
    simp [inr]; omega
  · have a1 : ¬ n < -32768 := fun z => c ((iI_lt h1 h2 (by decide) (by decide)).mpr z)
    have a2 : ¬ 32767 < n := fun z => c2 ((iI_lt (by decide) (by decide) h1 h2).mpr z)
    simp [inr]; omega
theorem c_numberL {N : Nat} {G : SG} {φ : Nat → Nat} {l : List Nat} {post : Int32 → SG → Prop} (hne : l ≠ []) (h64 : l.length ≤ 64) (h0 : G 3 0 0 = nI l.length) (h1 : ∀ i, i < l.length → G 3 1 i = nI (l.getD i 0)) (hl : ∀ x ∈ l, isAc x = true) (hd : dgs l = true) (k1 : inr (sgn l) = true → post (cw φ (vnum (sgn l))) G) (k0 : inr (sgn l) = false → post 0 G) :
    ∀ (n t : Nat), 70 - t < n → fst1 l ≤ t → t ≤ max (fst1 l) l.length → amt (l.take t) ≤ 400000 → V_X6_numberWord_9 N post n (nI (fst1 l)) (iI (sg l (amt (l.take t)))) (nI t) G
  | 0, t => fun h => absurd h (by omega)
  | n + 1, t => by
    intro a1 a2 a3 a4
    have hf : fst1 l ≤ 1 := by unfold fst1; split <;> omega
    have hs1 : -400000 ≤ sg l (amt (l.take t)) ∧ sg l (amt (l.take t)) ≤ 400000 := by unfold sg; split <;> omega
    unfold V_X6_numberWord_9
    rw [h0]
    have fin : l.length ≤ t → V_X11_isInRange (iI (sg l (amt (l.take t)))) (fun r_2 => ((r_2 = 0 → post (0 : Int32) G) ∧ (¬ r_2 = 0 → V_X10_of (2 : Int32) (iI (sg l (amt (l.take t)))) (fun r_4 => post r_4 G)))) := by
      intro hle
      have e : sg l (amt (l.take t)) = sgn l := by rw [List.take_of_length_le hle]; rfl
      rw [e] at hs1 ⊢
      refine c_range (by omega) (by omega) (fun h => ⟨fun c => absurd c (by decide), fun _ => ?_⟩) (fun h => ⟨fun _ => k0 h, fun c => absurd rfl c⟩)
      exact v_of (t := 2) (by decide) (k1 h)
    refine ⟨fun c => fin ((nI_leI (by omega) (by omega)).mp c), fun c => ⟨fun c2 => absurd c2 (nI_ge (b := 512) (by omega) (by decide)), fun _ => ?_⟩⟩
    have ht : t < l.length := by
      rcases Nat.lt_or_ge t l.length with z | z
      · exact z
      · exact absurd (nI_le z (by omega)) c
    have hmono : amt (l.take t) ≤ amt l := by
      have := amt_mono (l.take t) (l.drop t)
      rw [List.take_append_drop] at this
      exact this
    refine c_range (by omega) (by omega) (fun h => ⟨fun c => absurd c (by decide), fun _ => ⟨vp_in_nI (by omega) (by decide), ?_⟩⟩) (fun h => ⟨fun _ => ?_, fun c => absurd rfl c⟩)
    · have hdg := (dgs_iff hne).mp hd t a2 ht
      have hb : 48 ≤ l.getD t 0 ∧ l.getD t 0 ≤ 57 := isDg_iff.mp hdg
      have hle : amt (l.take t) ≤ 32768 := by
        have h := inr_iff.mp h
        unfold sg at h
        split at h <;> omega
      have hnext : amt (l.take (t + 1)) = 10 * amt (l.take t) + (l.getD t 0 - 48) := by
        rw [take_snoc ht, amt_snoc, if_pos (by rw [hdg]; simp; omega)]
      rw [nI_clamp (by omega), h1 t ht, show (48 : Int32) = nI 48 from rfl, nI_sub (by omega), ← iI_nat (l.getD t 0 - 48)]
      have step : ∀ x : Int32, x = iI (sg l (amt (l.take (t + 1)))) → ∀ y : Int32, y = nI t + 1 → V_X6_numberWord_9 N post n (nI (fst1 l)) x y G := by
        intro x ex y ey
        rw [ex, ey, nI_1]
        exact c_numberL hne h64 h0 h1 hl hd k1 k0 n (t + 1) (by omega) (by omega) (by omega) (by rw [hnext]; omega)
      refine eqI ⟨fun c x ex y ey => step x (ex.trans ?_) y ey, fun c x ex y ey => step x (ex.trans ?_) y ey⟩
      · have hh : ¬ l.head? = some 45 := fun z => c ((sg_fst l).mpr z)
        rw [show (10 : Int32) = iI 10 from rfl, iI_mul, iI_add, hnext]
        congr 1
        simp only [sg, if_neg hh]; omega
      · have hh : l.head? = some 45 := (sg_fst l).mp c
        rw [show (10 : Int32) = iI 10 from rfl, iI_mul, show -(iI ((l.getD t 0 - 48 : Nat) : Int)) = iI (-((l.getD t 0 - 48 : Nat) : Int)) from (Int32.ofInt_neg _).symm, iI_add, hnext]
        congr 1
        simp only [sg, if_pos hh]; omega
    · have h9 : inr (sgn l) = false := by
        have h := inr_no.mp h
        apply inr_no.mpr
        unfold sg at h
        unfold sgn
        split at h <;> rename_i hh <;> simp only [hh, if_true, if_false] <;> omega
      refine c_range (by omega) (by omega) (fun h2 => absurd (h.symm.trans h2) (by decide)) (fun _ => ⟨fun _ => k0 h9, fun c => absurd rfl c⟩)
