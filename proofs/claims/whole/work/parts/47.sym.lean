-- ===== symbols by their names =====
def nmOK (l : List Nat) : Prop := ∀ x ∈ l, 0 < x ∧ x < 128
theorem nmL_snoc (l : List Nat) (x : Nat) : nmL (l ++ [x]) = nmL l * 128 + x := by
  unfold nmL; rw [List.foldl_append]; rfl
theorem nmL_inj : ∀ (n : Nat) (l m : List Nat), l.length ≤ n → nmOK l → nmOK m → nmL l = nmL m → l = m
  | 0, l, m, hn, hl, hm, h => by
    have : l = [] := List.length_eq_zero_iff.mp (by omega)
    subst this
    rcases List.eq_nil_or_concat m with rfl | ⟨m, x, rfl⟩
    · rfl
    · rw [List.concat_eq_append] at h hm
      rw [nmL_snoc] at h
      have := hm x (by simp)
      have h : 0 = nmL m * 128 + x := h
      omega
  | n + 1, l, m, hn, hl, hm, h => by
    rcases List.eq_nil_or_concat l with rfl | ⟨l, x, rfl⟩
    · rcases List.eq_nil_or_concat m with rfl | ⟨m, y, rfl⟩
      · rfl
      · rw [List.concat_eq_append] at h hm
        rw [nmL_snoc] at h
        have := hm y (by simp)
        have h : 0 = nmL m * 128 + y := h
        omega
    · rw [List.concat_eq_append] at h hl hn ⊢
      rw [nmL_snoc] at h
      have h1 := hl x (by simp)
      rcases List.eq_nil_or_concat m with rfl | ⟨m, y, rfl⟩
      · have h : nmL l * 128 + x = 0 := h
        omega
      · rw [List.concat_eq_append] at h hm ⊢
        rw [nmL_snoc] at h
        have h2 := hm y (by simp)
        have e1 : nmL l = nmL m := by omega
        have e2 : x = y := by omega
        rw [List.length_append] at hn
        rw [nmL_inj n l m (by have : [x].length = 1 := rfl; omega) (fun z hz => hl z (List.mem_append_left _ hz)) (fun z hz => hm z (List.mem_append_left _ hz)) e1, e2]
theorem nmL_lt : ∀ (n : Nat) (l : List Nat), l.length ≤ n → nmOK l → nmL l < 128 ^ n
  | 0, l, hn, hl => by
    have : l = [] := List.length_eq_zero_iff.mp (by omega)
    subst this; decide
  | n + 1, l, hn, hl => by
    rcases List.eq_nil_or_concat l with rfl | ⟨l, x, rfl⟩
    · show 0 < _; exact Nat.pow_pos (by decide)
    · rw [List.concat_eq_append] at hl hn ⊢
      rw [nmL_snoc, Nat.pow_succ]
      have h1 := hl x (by simp)
      rw [List.length_append] at hn
      have := nmL_lt n l (by have : [x].length = 1 := rfl; omega) (fun z hz => hl z (List.mem_append_left _ hz))
      have : (nmL l + 1) * 128 ≤ 128 ^ n * 128 := Nat.mul_le_mul_right _ (by omega)
      omega
theorem nmL_b {l : List Nat} (h : l.length ≤ 6) (hl : nmOK l) : nmL l < 4398046511104 := nmL_lt 6 l h hl
theorem lN_inj {a b : Nat} (ha : a < 2 ^ 62) (hb : b < 2 ^ 62) (h : lN a = lN b) : a = b := by
  have h1 := lg_ofNat_toInt (n := a) (by omega)
  have h2 := lg_ofNat_toInt (n := b) (by omega)
  have h3 : (lN a).toInt = (lN b).toInt := by rw [h]
  have h1 : (lN a).toInt = (a : Int) := h1
  have h2 : (lN b).toInt = (b : Int) := h2
  omega
theorem cmp_nm {l m : List Nat} (h1 : l.length ≤ 6) (h2 : m.length ≤ 6) (hl : nmOK l) (hm : nmOK m) : lg_cmp (lN (nmL l)) (lN (nmL m)) = 0 ↔ l = m := by
  have b1 := nmL_b h1 hl
  have b2 := nmL_b h2 hm
  constructor
  · intro h
    have e : lN (nmL l) = lN (nmL m) := by
      unfold lg_cmp at h
      split at h
      · exact absurd h (by decide)
      · split at h
        · assumption
        · exact absurd h (by decide)
    exact nmL_inj 6 l m h1 hl hm (lN_inj (by omega) (by omega) e)
  · intro h; rw [h]; exact lcmp_self _
-- operators
theorem stl_opt : ∀ i, i < 32 → STL.getD i [] = (OPTX.getD i []).map nI := by decide +kernel
theorem opt_len : ∀ i, i < 32 → (OPTX.getD i []).length ≤ 5 := by decide +kernel
theorem opt_ok : ∀ i, i < 32 → ∀ x ∈ OPTX.getD i [], 0 < x ∧ x < 128 := by decide +kernel
theorem stl_chr : ∀ i, i < 32 → ∀ t, t < (STL.getD i []).length → (((((STL.getD i []).getD t 0) &&& (255 : Int32))).toUInt32 % 65536).toInt32 = (STL.getD i []).getD t 0 ∧ ((narrow .char (.int ((STL.getD i []).getD t 0)) == .int ((STL.getD i []).getD t 0)) = true) := by decide +kernel
theorem opt_inj : ∀ i, i < 32 → ∀ m, m < 32 → OPTX.getD i [] = OPTX.getD m [] → i = m := by decide +kernel
theorem opx_eq {l : List Nat} {i : Nat} (h0 : 0 < i) (h1 : i < 32) (h : OPTX.getD i [] = l) : opx l = i := by
  unfold opx
  have : (List.range 32).find? (fun m => decide (0 < m) && decide (OPTX.getD m [] = l)) = some i := by
    rw [List.find?_eq_some_iff_getElem]
    refine ⟨by rw [Bool.and_eq_true, decide_eq_true_eq, decide_eq_true_eq]; exact ⟨h0, h⟩, i, by simpa using h1, by simp, fun m hm => ?_⟩
    simp only [List.getElem_range, Bool.not_eq_true', Bool.and_eq_false_iff, decide_eq_false_iff_not]
    right
    intro e
    have := opt_inj m (by omega) i h1 (e.trans h.symm)
    omega
  rw [this]; rfl
theorem opx_no {l : List Nat} (h : ∀ m, 0 < m → m < 32 → OPTX.getD m [] ≠ l) : opx l = 0 := by
  unfold opx
  have : (List.range 32).find? (fun m => decide (0 < m) && decide (OPTX.getD m [] = l)) = none := by
    rw [List.find?_eq_none]
    intro m hm
    simp only [List.mem_range] at hm
    simp only [Bool.and_eq_true, decide_eq_true_eq]
    rintro ⟨a, b⟩
    exact h m a hm b
  rw [this]; rfl
theorem opx_lt (l : List Nat) : opx l < 32 := by
  by_cases h : ∃ m, 0 < m ∧ m < 32 ∧ OPTX.getD m [] = l
  · obtain ⟨m, a, b, c⟩ := h
    rw [opx_eq a b c]; exact b
  · rw [opx_no (fun m a b c => h ⟨m, a, b, c⟩)]; decide
theorem nI_inj {a b : Nat} (ha : a < 2 ^ 31) (hb : b < 2 ^ 31) (h : nI a = nI b) : a = b := (nI_eq ha hb).mp h
theorem getD_map_nI (l : List Nat) (t : Nat) : (l.map nI).getD t 0 = nI (l.getD t 0) := by
  rw [List.getD_eq_getElem?_getD, List.getD_eq_getElem?_getD, List.getElem?_map]
  cases l[t]? <;> rfl
theorem c_chr {i t : Nat} {post : Int32 → Prop} (hi : i < 32) (ht : t < (OPTX.getD i []).length) (k : post (nI ((OPTX.getD i []).getD t 0))) : V_J0_charAt_5068e i (nI t) post := by
  have h5 := opt_len i hi
  have e := stl_opt i hi
  have hl : (STL.getD i []).length = (OPTX.getD i []).length := by rw [e, List.length_map]
  obtain ⟨c1, c2⟩ := stl_chr i hi t (by omega)
  have c2 := eq_of_beq c2
  have hg : (STL.getD i []).getD t 0 = nI ((OPTX.getD i []).getD t 0) := by rw [e, getD_map_nI]
  unfold V_J0_charAt_5068e V_J0_isLatin1_aae02 V_J1_charAt_3b067
  refine ⟨by omega, ⟨fun c => absurd c (by decide), fun _ => ⟨by omega, fun c => absurd rfl c, fun _ => ⟨fun c => absurd c (by decide), fun _ => ⟨by omega, by omega, ⟨nI_pos (by omega), ?_⟩, by omega, ?_, ?_, ?_, ?_⟩⟩⟩⟩⟩
  · rw [hl]; exact nI_lt (by omega) (by omega)
  · rw [hl]; exact vp_in_nI (by omega) (by omega)
  · rw [nI_clamp (by omega), c1]; exact c2
  · rw [nI_clamp (by omega), c1]; exact c2
  · rw [nI_clamp (by omega), c1, hg]; exact k
theorem ext_getD {l m : List Nat} (h : l.length = m.length) (h2 : ∀ t, t < m.length → l.getD t 0 = m.getD t 0) : l = m := by
  apply List.ext_getElem h
  intro t h1 h3
  have := h2 t h3
  simpa [List.getD_eq_getElem?_getD, h1, h3] using this
theorem c_opNamedL {L i : Nat} {l : List Nat} {f : Nat → Int32} {post : Int32 → Prop} (hi : i < 32) (hL : l.length ≤ L) (hL2 : L < 2 ^ 31) (hl5 : (OPTX.getD i []).length = l.length) (hl : nmOK l) (hf : ∀ t, t < l.length → f t = nI (l.getD t 0)) (k1 : OPTX.getD i [] = l → post 1) (k0 : OPTX.getD i [] ≠ l → post 0) :
    ∀ (n t : Nat), l.length - t < n → t ≤ l.length → (∀ s, s < t → (OPTX.getD i []).getD s 0 = l.getD s 0) → V_X3_isNamed_21 L post n i (nI l.length) (nI t) f
  | 0, t => fun h => absurd h (by omega)
  | n + 1, t => by
    intro h1 h2 h3
    have h5 := opt_len i hi
    unfold V_X3_isNamed_21
    refine ⟨fun c => k1 ?_, fun c => ?_⟩
    · have := (nI_leI (by omega) (by omega)).mp c
      exact ext_getD hl5 (fun s hs => h3 s (by omega))
    · have ht : t < l.length := by
        rcases Nat.lt_or_ge t l.length with z | z
        · exact z
        · exact absurd (nI_le z (by omega)) c
      refine ⟨hi, by omega, c_chr hi (by omega) ⟨vp_in_nI (by omega) hL2, ?_⟩⟩
      rw [nI_clamp (by omega), hf t ht]
      have b1 : (OPTX.getD i []).getD t 0 < 128 := by
        rw [List.getD_eq_getElem?_getD]
        cases e : (OPTX.getD i [])[t]? with
        | none => decide
        | some y => exact (opt_ok i hi y (List.mem_of_getElem? e)).2
      have b2 : l.getD t 0 < 128 := by
        rw [List.getD_eq_getElem?_getD]
        cases e : l[t]? with
        | none => decide
        | some y => exact (hl y (List.mem_of_getElem? e)).2
      refine ⟨fun c2 => ?_, fun c2 => k0 (fun e => c2 (by rw [e]))⟩
      refine eqI ?_
      rw [nI_1]
      refine c_opNamedL hi hL hL2 hl5 hl hf k1 k0 n (t + 1) (by omega) (by omega) (fun s hs => ?_)
      by_cases e : s = t
      · subst e; exact nI_inj (by omega) (by omega) c2
      · exact h3 s (by omega)
theorem c_opNamed {L n i : Nat} {l : List Nat} {f : Nat → Int32} {post : Int32 → Prop} (hi : i < 32) (hL : l.length ≤ L) (hL2 : L < 2 ^ 31) (hn : 6 ≤ n) (hl5 : l.length ≤ 5) (hl : nmOK l) (hf : ∀ t, t < l.length → f t = nI (l.getD t 0)) (k1 : OPTX.getD i [] = l → post 1) (k0 : OPTX.getD i [] ≠ l → post 0) : V_X3_isNamed L n i (nI l.length) f post := by
  have h5 := opt_len i hi
  have e := stl_opt i hi
  have hl9 : (STL.getD i []).length = (OPTX.getD i []).length := by rw [e, List.length_map]
  unfold V_X3_isNamed V_J0_length_8abf5 V_J0_coder_7d493
  refine ⟨hi, by omega, by omega, by omega, by omega, ⟨fun c => absurd c (by decide), fun _ => ⟨by omega, ?_⟩⟩⟩
  rw [hl9]
  have hs : (Int32.ofNat (OPTX.getD i []).length) >>> ((0 : Int32) &&& 31) = nI (OPTX.getD i []).length := by
    have : ∀ m, m < 6 → (Int32.ofNat m) >>> ((0 : Int32) &&& 31) = nI m := by decide +kernel
    exact this _ (by omega)
  dsimp only
  rw [hs]
  refine ⟨fun c => k0 (fun e => c (by rw [e])), fun c => ⟨fun _ => ?_, fun c2 => absurd (nI_le hL hL2) c2⟩⟩
  have hll := nI_inj (by omega) (by omega) c
  refine eqI ?_
  exact c_opNamedL hi hL hL2 hll hl hf k1 k0 n 0 (by omega) (Nat.zero_le _) (fun s hs => absurd hs (Nat.not_lt_zero _))
theorem c_indexOfL {L : Nat} {l : List Nat} {f : Nat → Int32} {post : Int32 → Prop} (hL : l.length ≤ L) (hL2 : L < 2 ^ 31) (hl5 : l.length ≤ 5) (hl : nmOK l) (hf : ∀ t, t < l.length → f t = nI (l.getD t 0)) (k : post (nI (opx l))) :
    ∀ (n i : Nat), 40 - i < n → 0 < i → i ≤ 32 → (∀ m, 0 < m → m < i → OPTX.getD m [] ≠ l) → V_X3_indexOf_2 L post n (nI l.length) (nI i) f
  | 0, i => fun h => absurd h (by omega)
  | n + 1, i => by
    intro h1 h2 h3 h4
    unfold V_X3_indexOf_2
    refine ⟨fun c => ?_, fun c => ?_⟩
    · have := (nI_leI (a := 32) (by decide) (by omega)).mp c
      have e : opx l = 0 := opx_no (fun m a b => h4 m a (by omega))
      rw [e] at k; exact k
    · have hi : i < 32 := by
        rcases Nat.lt_or_ge i 32 with z | z
        · exact z
        · exact absurd (nI_le (a := 32) z (by omega)) c
      rw [nI_clamp (by omega)]
      refine ⟨vp_in_nI hi (by decide), hi, c_opNamed hi hL hL2 (by omega) hl5 hl hf (fun e => ?_) (fun e => ?_)⟩
      · refine ⟨fun c => absurd c (by decide), fun _ => ?_⟩
        rw [opx_eq h2 hi e] at k; exact k
      · refine ⟨fun _ => eqI ?_, fun c => absurd rfl c⟩
        rw [nI_1]
        refine c_indexOfL hL hL2 hl5 hl hf k n (i + 1) (by omega) (by omega) (by omega) (fun m a b => ?_)
        by_cases e2 : m = i
        · subst e2; exact e
        · exact h4 m a (by omega)
theorem c_indexOf {L n : Nat} {l : List Nat} {f : Nat → Int32} {post : Int32 → Prop} (hL : l.length ≤ L) (hL2 : L < 2 ^ 31) (hn : 40 ≤ n) (hl5 : l.length ≤ 5) (hl : nmOK l) (hf : ∀ t, t < l.length → f t = nI (l.getD t 0)) (k : post (nI (opx l))) : V_X3_indexOf L n (nI l.length) f post := by
  unfold V_X3_indexOf
  refine eqI ?_
  exact c_indexOfL hL hL2 hl5 hl hf k n 1 (by omega) (by decide) (by decide) (fun m a b => absurd a (by omega))
