-- ===== characters =====
theorem Z97 : (97 : Int32).toInt = 97 := rfl
theorem Z122 : (122 : Int32).toInt = 122 := rfl
theorem Z48 : (48 : Int32).toInt = 48 := rfl
theorem Z57 : (57 : Int32).toInt = 57 := rfl
theorem Z43 : (43 : Int32).toInt = 43 := rfl
theorem Z45 : (45 : Int32).toInt = 45 := rfl
theorem Z42 : (42 : Int32).toInt = 42 := rfl
theorem Z47 : (47 : Int32).toInt = 47 := rfl
theorem Z60 : (60 : Int32).toInt = 60 := rfl
theorem Z40 : (40 : Int32).toInt = 40 := rfl
theorem Z41 : (41 : Int32).toInt = 41 := rfl
theorem Z39 : (39 : Int32).toInt = 39 := rfl
theorem Z32 : (32 : Int32).toInt = 32 := rfl
theorem Z10 : (10 : Int32).toInt = 10 := rfl
def acZ (n : Int) : Prop := (97 ≤ n ∧ n ≤ 122) ∨ (48 ≤ n ∧ n ≤ 57) ∨ n = 43 ∨ n = 45 ∨ n = 42 ∨ n = 47 ∨ n = 60
def rdZ (n : Int) : Prop := n = 40 ∨ n = 41 ∨ n = 39 ∨ n = 32 ∨ n = 10
theorem c_digit {v : Int32} {post : Int32 → Prop} (k1 : (48 ≤ v.toInt ∧ v.toInt ≤ 57) → post 1) (k0 : ¬ (48 ≤ v.toInt ∧ v.toInt ≤ 57) → post 0) : V_X6_isDigit v post := by
  unfold V_X6_isDigit
  refine ⟨fun c => k0 ?_, fun c => ⟨fun c2 => k0 ?_, fun c2 => k1 ?_⟩⟩ <;> simp only [Int32.lt_iff_toInt_lt, Int32.le_iff_toInt_le, ← Int32.toInt_inj, Z97, Z122, Z48, Z57, Z43, Z45, Z42, Z47, Z60, Z40, Z41, Z39, Z32, Z10] at * <;> omega
theorem c_ofAtom12 {v : Int32} {post : Int32 → Prop} (hb : ¬ (97 ≤ v.toInt ∧ v.toInt ≤ 122)) (k1 : acZ v.toInt → post 1) (k0 : ¬ acZ v.toInt → post 0) : V_X6_isOfAtom_12 post v := by
  unfold V_X6_isOfAtom_12
  unfold acZ at k1 k0
  refine c_digit (fun h => ⟨fun _ => k1 (Or.inr (Or.inl h)), fun c => absurd c (by decide)⟩) (fun h => ⟨fun c => absurd rfl c, fun _ => ?_⟩)
  refine ⟨fun c => k1 ?_, fun c => ⟨fun c2 => k1 ?_, fun c2 => ⟨fun c3 => k1 ?_, fun c3 => ⟨fun c4 => k1 ?_, fun c4 => ⟨fun c5 => k0 ?_, fun c5 => k1 ?_⟩⟩⟩⟩⟩ <;> clear k1 k0 <;> simp only [Int32.lt_iff_toInt_lt, Int32.le_iff_toInt_le, ← Int32.toInt_inj, Z97, Z122, Z48, Z57, Z43, Z45, Z42, Z47, Z60, Z40, Z41, Z39, Z32, Z10] at * <;> omega
theorem c_ofAtom {v : Int32} {post : Int32 → Prop} (k1 : acZ v.toInt → post 1) (k0 : ¬ acZ v.toInt → post 0) : V_X6_isOfAtom v post := by
  unfold V_X6_isOfAtom
  refine ⟨fun c => c_ofAtom12 ?_ k1 k0, fun c => ⟨fun c2 => k1 ?_, fun c2 => c_ofAtom12 ?_ k1 k0⟩⟩
  · clear k1 k0
    simp only [Int32.lt_iff_toInt_lt, Int32.le_iff_toInt_le, ← Int32.toInt_inj, Z97, Z122, Z48, Z57, Z43, Z45, Z42, Z47, Z60, Z40, Z41, Z39, Z32, Z10] at *
    omega
  · clear k1 k0
    unfold acZ
    simp only [Int32.lt_iff_toInt_lt, Int32.le_iff_toInt_le, ← Int32.toInt_inj, Z97, Z122, Z48, Z57, Z43, Z45, Z42, Z47, Z60, Z40, Z41, Z39, Z32, Z10] at *
    omega
  · clear k1 k0
    simp only [Int32.lt_iff_toInt_lt, Int32.le_iff_toInt_le, ← Int32.toInt_inj, Z97, Z122, Z48, Z57, Z43, Z45, Z42, Z47, Z60, Z40, Z41, Z39, Z32, Z10] at *
    omega
theorem c_readable {v : Int32} {post : Int32 → Prop} (k1 : (rdZ v.toInt ∨ acZ v.toInt) → post 1) (k0 : ¬ (rdZ v.toInt ∨ acZ v.toInt) → post 0) : V_X6_isReadable v post := by
  unfold V_X6_isReadable
  have e : ∀ n : Int32, v = n → v.toInt = n.toInt := fun n h => by rw [h]
  refine ⟨fun c => k1 (Or.inl (Or.inl (e _ c))), fun c => ⟨fun c2 => k1 (Or.inl (Or.inr (Or.inl (e _ c2)))), fun c2 => ⟨fun c3 => k1 (Or.inl (Or.inr (Or.inr (Or.inl (e _ c3))))), fun c3 => ⟨fun c4 => k1 (Or.inl (Or.inr (Or.inr (Or.inr (Or.inl (e _ c4)))))), fun c4 => ⟨fun c5 => k1 (Or.inl (Or.inr (Or.inr (Or.inr (Or.inr (e _ c5)))))), fun c5 => ?_⟩⟩⟩⟩⟩
  refine c_ofAtom (fun h => ⟨fun c => absurd c (by decide), fun _ => k1 (Or.inr h)⟩) (fun h => ⟨fun _ => k0 ?_, fun c => absurd rfl c⟩)
  rintro (h2 | h2)
  · clear k1 k0 e h
    unfold rdZ at h2
    simp only [Int32.lt_iff_toInt_lt, Int32.le_iff_toInt_le, ← Int32.toInt_inj, Z97, Z122, Z48, Z57, Z43, Z45, Z42, Z47, Z60, Z40, Z41, Z39, Z32, Z10] at *
    omega
  · exact h h2
theorem r_atomic24 {v : Int32} {post : Int32 → Prop} (hb : ¬ (97 ≤ v.toInt ∧ v.toInt ≤ 122)) (hd : ¬ (48 ≤ v.toInt ∧ v.toInt ≤ 57)) (k1 : acZ v.toInt → post 1) (k0 : ¬ acZ v.toInt → post 0) : V_X12_atomic_24 post v := by
  unfold V_X12_atomic_24
  unfold acZ at k1 k0
  refine ⟨fun c => k1 ?_, fun c => ⟨fun c2 => k1 ?_, fun c2 => ⟨fun c3 => k1 ?_, fun c3 => ⟨fun c4 => k1 ?_, fun c4 => ⟨fun c5 => k0 ?_, fun c5 => k1 ?_⟩⟩⟩⟩⟩ <;> clear k1 k0 <;> simp only [Int32.lt_iff_toInt_lt, Int32.le_iff_toInt_le, ← Int32.toInt_inj, Z97, Z122, Z48, Z57, Z43, Z45, Z42, Z47, Z60, Z40, Z41, Z39, Z32, Z10] at * <;> omega
theorem r_atomic {v : Int32} {post : Int32 → Prop} (k1 : acZ v.toInt → post 1) (k0 : ¬ acZ v.toInt → post 0) : V_X12_atomic v post := by
  unfold V_X12_atomic
  refine ⟨fun c => ⟨fun c2 => r_atomic24 ?_ ?_ k1 k0, fun c2 => ⟨fun c3 => k1 ?_, fun c3 => r_atomic24 ?_ ?_ k1 k0⟩⟩, fun c => ⟨fun c2 => k1 ?_, fun c2 => ⟨fun c3 => r_atomic24 ?_ ?_ k1 k0, fun c3 => ⟨fun c4 => k1 ?_, fun c4 => r_atomic24 ?_ ?_ k1 k0⟩⟩⟩⟩ <;> clear k1 k0 <;> (try unfold acZ) <;> simp only [Int32.lt_iff_toInt_lt, Int32.le_iff_toInt_le, ← Int32.toInt_inj, Z97, Z122, Z48, Z57, Z43, Z45, Z42, Z47, Z60, Z40, Z41, Z39, Z32, Z10] at * <;> omega
