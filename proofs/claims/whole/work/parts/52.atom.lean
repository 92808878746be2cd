-- ===== letters of an atom =====
theorem c_letter {N c m n : Nat} {G : SG} {post : SG → Prop} (ho : G 3 0 1 = nI m) (h0 : 0 < m) (hm : m ≤ 12) (hn : G 3 0 0 = nI n) (h5 : n < 512) (hc : c < 128) (k : post (uo G 3 (us (up (G 3) 1 n (nI c)) 0 (nI (n + 1))))) : V_X6_addLetter N (nI c) G post := by
  unfold V_X6_addLetter
  rw [ho, hn]
  refine ⟨fun q => absurd q (nI_nle h0 (by omega)), fun _ => ⟨fun q => absurd q (nI_ge (b := 512) h5 (by decide)), fun _ => ⟨vp_in_nI h5 (by decide), ?_⟩⟩⟩
  rw [show ((nI c).toUInt32 % 65536).toInt32 = nI c from nar_char (x := c) (by omega), nar_char (by omega), nI_clamp (by omega)]
  refine eqI (eqI ?_)
  have e : (uo G 3 (up (G 3) 1 n (nI c))) 3 0 0 = nI n := hn
  rw [e, nI_1, uo_uo]
  exact k
theorem amt_snoc (l : List Nat) (x : Nat) : amt (l ++ [x]) = if isDg x && decide (amt l < 100000) then 10 * amt l + (x - 48) else amt l := by
  unfold amt
  rw [List.foldl_append]; rfl
theorem amt_lt : ∀ (n : Nat) (l : List Nat), l.length ≤ n → amt l < 1000010
  | 0, l, h => by
    have : l = [] := List.length_eq_zero_iff.mp (by omega)
    subst this; decide
  | n + 1, l, h => by
    rcases List.eq_nil_or_concat l with rfl | ⟨l, x, rfl⟩
    · decide
    · rw [List.concat_eq_append] at h ⊢
      rw [List.length_append] at h
      have := amt_lt n l (by have : [x].length = 1 := rfl; omega)
      rw [amt_snoc]
      split
      · rename_i hx
        simp only [Bool.and_eq_true, decide_eq_true_eq, isDg] at hx
        omega
      · exact this
theorem dgs_snoc {l : List Nat} (x : Nat) (h : l ≠ []) : dgs (l ++ [x]) = (dgs l && isDg x) := by
  cases l with
  | nil => exact absurd rfl h
  | cons y l =>
    show ((isDg y || y == 45) && (l ++ [x]).all isDg) = (((isDg y || y == 45) && l.all isDg) && isDg x)
    rw [List.all_append, show [x].all isDg = isDg x by simp, Bool.and_assoc]
theorem take6_snoc (l : List Nat) (x : Nat) : (l ++ [x]).take 6 = if l.length < 6 then l.take 6 ++ [x] else l.take 6 := by
  split
  · rename_i h
    rw [List.take_of_length_le (by rw [List.length_append]; show l.length + 1 ≤ 6; omega), List.take_of_length_le (by omega)]
  · rename_i h
    rw [List.take_append_of_le_length (by omega)]
def LF (g : St) (k : StL) (a : St) (k1 : StL) : Prop := (∀ b, b ≠ 0 → a b = g b) ∧ (∀ i, i ≠ 8 → i ≠ 9 → i ≠ 10 → i ≠ 11 → a 0 i = g 0 i) ∧ ∀ b, b ≠ 0 → k1 b = k b
theorem LF.rfl {g : St} {k : StL} : LF g k g k := ⟨fun _ _ => Eq.refl _, fun _ _ _ _ _ => Eq.refl _, fun _ _ => Eq.refl _⟩
theorem LF.us {g a : St} {k k1 : StL} (h : LF g k a k1) {i : Nat} (x : Int32) (hi : i = 8 ∨ i = 9 ∨ i = 10 ∨ i = 11) : LF g k (us a i x) k1 := by
  refine ⟨fun b hb => ?_, fun j h8 h9 h10 h11 => ?_, h.2.2⟩
  · cases b with
    | zero => exact absurd (Eq.refl 0) hb
    | succ b => exact h.1 (b + 1) hb
  · rw [us0, if_neg (by rcases hi with e | e | e | e <;> rw [e] <;> assumption)]
    exact h.2.1 j h8 h9 h10 h11
theorem LF.usL {g a : St} {k k1 : StL} (h : LF g k a k1) (x : Int64) : LF g k a (usL k1 0 x) := by
  refine ⟨h.1, h.2.1, fun b hb => ?_⟩
  cases b with
  | zero => exact absurd (Eq.refl 0) hb
  | succ b => exact h.2.2 (b + 1) hb
theorem lN_mc (a c : Nat) (hc : c < 2 ^ 31) : lN a * 128 + (nI c).toInt64 = lN (a * 128 + c) := by
  rw [nI_l hc]
  show Int64.ofNat a * Int64.ofNat 128 + Int64.ofNat c = Int64.ofNat (a * 128 + c)
  rw [← Int64.ofNat_mul, ← Int64.ofNat_add]
theorem r_letter106 {c : Nat} {at1 : List Nat} {g0 g : St} {k0 k : StL} {post : St → StL → Prop} (hc : c < 128) (hF : LF g0 k0 g k) (h8 : g 0 8 = nI (min 6 at1.length)) (hk : k 0 0 = lN (nmL (at1.take 6)))
    (kk : ∀ a k1, LF g0 k0 a k1 → a 0 8 = nI (min 6 (at1 ++ [c]).length) → k1 0 0 = lN (nmL ((at1 ++ [c]).take 6)) → (∀ i, i ≠ 8 → a 0 i = g 0 i) → post a k1) : V_X12_letter_106 post (nI c) g k := by
  unfold V_X12_letter_106
  rw [h8]
  have hl : (at1 ++ [c]).length = at1.length + 1 := by simp
  refine ⟨fun q => ?_, fun q => ?_⟩
  · have := (nI_leI (a := 6) (by decide) (by omega)).mp q
    refine kk g k hF ?_ ?_ (fun _ _ => Eq.refl _)
    · rw [h8, hl]; congr 1; omega
    · rw [take6_snoc, if_neg (by omega)]; exact hk
  · have hlt : at1.length < 6 := by
      rcases Nat.lt_or_ge at1.length 6 with z | z
      · exact z
      · exact absurd (nI_le (a := 6) (by omega) (by omega)) q
    refine eqI (eqI ?_)
    rw [nI_1, hk, lN_mc _ _ (by omega)]
    refine kk _ _ ((hF.usL _).us _ (Or.inl (Eq.refl _))) ?_ ?_ (fun i hi => ?_)
    · show nI (min 6 at1.length + 1) = _
      rw [hl]; congr 1; omega
    · show lN _ = _
      rw [take6_snoc, if_pos hlt, nmL_snoc]
    · rw [us0, if_neg hi]
theorem r_letter77 {c : Nat} {y : Int32} {at1 : List Nat} {g0 g : St} {k0 k : StL} {post : St → StL → Prop} (hc : c < 128) (hF : LF g0 k0 g k) (h8 : g 0 8 = nI (min 6 at1.length)) (hk : k 0 0 = lN (nmL (at1.take 6))) (h11 : g 0 11 = nI (amt at1)) (hy : y = if isDg c then 1 else 0)
    (kk : ∀ a k1, LF g0 k0 a k1 → a 0 8 = nI (min 6 (at1 ++ [c]).length) → k1 0 0 = lN (nmL ((at1 ++ [c]).take 6)) → a 0 11 = nI (amt (at1 ++ [c])) → (∀ i, i ≠ 8 → i ≠ 11 → a 0 i = g 0 i) → post a k1) : V_X12_letter_77 post (nI c) y g k := by
  unfold V_X12_letter_77
  have hb := amt_lt at1.length at1 (Nat.le_refl _)
  subst hy
  cases hd : isDg c with
  | false =>
    refine ⟨fun _ => ?_, fun q => absurd rfl q⟩
    refine r_letter106 hc hF h8 hk (fun a k1 b1 b2 b3 b4 => kk a k1 b1 b2 b3 ?_ (fun i h1 _ => b4 i h1))
    rw [b4 11 (by decide), h11, amt_snoc, hd]; rfl
  | true =>
    refine ⟨fun q => absurd q (by decide), fun _ => ?_⟩
    rw [h11]
    refine ⟨fun q => ?_, fun q => ?_⟩
    · have := (nI_leI (a := 100000) (by decide) (by omega)).mp q
      refine r_letter106 hc hF h8 hk (fun a k1 b1 b2 b3 b4 => kk a k1 b1 b2 b3 ?_ (fun i h1 _ => b4 i h1))
      rw [b4 11 (by decide), h11, amt_snoc, hd, if_neg (by simp; omega)]
    · have hlt : amt at1 < 100000 := by
        rcases Nat.lt_or_ge (amt at1) 100000 with z | z
        · exact z
        · exact absurd (nI_le (a := 100000) z (by omega)) q
      have hd2 : 48 ≤ c ∧ c ≤ 57 := by simpa [isDg] using hd
      have e : (10 : Int32) * nI (amt at1) + nI c - 48 = nI (10 * amt at1 + (c - 48)) := by
        show Int32.ofNat 10 * Int32.ofNat (amt at1) + nI c - nI 48 = _
        rw [← Int32.ofNat_mul]
        show nI (10 * amt at1) + nI c - nI 48 = _
        rw [nI_add, nI_sub (by omega)]
        congr 1; omega
      rw [e]
      refine eqI ?_
      refine r_letter106 hc (hF.us _ (Or.inr (Or.inr (Or.inr rfl)))) h8 hk (fun a k1 b1 b2 b3 b4 => kk a k1 b1 b2 b3 ?_ (fun i h1 h2 => ?_))
      · rw [b4 11 (by decide), amt_snoc, hd, if_pos (by simp; omega)]; rfl
      · rw [b4 i h1, us0, if_neg h2]
theorem r_letter54 {c : Nat} {y : Int32} {at1 : List Nat} {g0 g : St} {k0 k : StL} {post : St → StL → Prop} (hc : c < 128) (hF : LF g0 k0 g k) (h8 : g 0 8 = nI (min 6 at1.length)) (hk : k 0 0 = lN (nmL (at1.take 6))) (h11 : g 0 11 = nI (amt at1)) (h9 : g 0 9 = if dgs at1 then 1 else 0) (hy : y = if isDg c then 1 else 0)
    (kk : ∀ a k1, LF g0 k0 a k1 → a 0 8 = nI (min 6 (at1 ++ [c]).length) → k1 0 0 = lN (nmL ((at1 ++ [c]).take 6)) → a 0 11 = nI (amt (at1 ++ [c])) → a 0 9 = (if dgs (at1 ++ [c]) then 1 else 0) → a 0 10 = g 0 10 → post a k1) : V_X12_letter_54 post (nI c) y g k := by
  unfold V_X12_letter_54
  have hd9 : ∀ b : Bool, dgs (at1 ++ [c]) = b → g 0 9 = (if b then 1 else 0) → ∀ a : St, a 0 9 = g 0 9 → a 0 9 = if dgs (at1 ++ [c]) then 1 else 0 := fun b e1 e2 a e3 => by rw [e3, e1, e2]
  refine ⟨fun q => ?_, fun q => ?_⟩
  · have hd : isDg c = true := by
      cases h : isDg c with
      | true => rfl
      | false => rw [h] at hy; exact absurd hy q
    refine r_letter77 hc hF h8 hk h11 hy (fun a k1 b1 b2 b3 b4 b5 => kk a k1 b1 b2 b3 b4 ?_ (b5 10 (by decide) (by decide)))
    rw [b5 9 (by decide) (by decide), h9]
    by_cases e : at1 = []
    · subst e
      show _ = if ((isDg c || c == 45) && true) then _ else _
      rw [hd]; rfl
    · rw [dgs_snoc c e, hd, Bool.and_true]
  · have hd : isDg c = false := by
      cases h : isDg c with
      | false => rfl
      | true => rw [h] at hy; rw [hy] at q; exact absurd q (by decide)
    have off : ∀ g1 : St, g1 = us g 9 0 → dgs (at1 ++ [c]) = false → V_X12_letter_77 post (nI c) y g1 k := by
      intro g1 e1 e2
      subst e1
      refine r_letter77 hc (hF.us _ (Or.inr (Or.inl rfl))) h8 hk h11 hy (fun a k1 b1 b2 b3 b4 b5 => kk a k1 b1 b2 b3 b4 ?_ (b5 10 (by decide) (by decide)))
      rw [b5 9 (by decide) (by decide), e2]; rfl
    refine ⟨fun c2 g1 e1 => off g1 e1 ?_, fun c2 => ⟨fun c3 => ?_, fun c3 g1 e1 => off g1 e1 ?_⟩⟩
    · by_cases e : at1 = []
      · subst e
        show ((isDg c || c == 45) && true) = false
        have : ¬ c = 45 := fun h => c2 (by rw [h]; rfl)
        rw [hd]; simp [this]
      · rw [dgs_snoc c e, hd, Bool.and_false]
    · rw [h8] at c3
      have e : at1 = [] := by
        have := (nI_leI (b := 0) (by omega) (by decide)).mp c3
        exact List.length_eq_zero_iff.mp (by omega)
      subst e
      have c45 : c = 45 := nI_inj (b := 45) (by omega) (by decide) c2
      refine r_letter77 hc hF h8 hk h11 hy (fun a k1 b1 b2 b3 b4 b5 => kk a k1 b1 b2 b3 b4 ?_ (b5 10 (by decide) (by decide)))
      rw [b5 9 (by decide) (by decide), h9, c45]; rfl
    · rw [h8] at c3
      have e : at1 ≠ [] := fun h => c3 (by rw [h]; exact Int32.le_refl _)
      rw [dgs_snoc c e, hd, Bool.and_false]
theorem r_letter {c : Nat} {at1 : List Nat} {g : St} {k : StL} {post : St → StL → Prop} (hc : c < 128) (h8 : g 0 8 = nI (min 6 at1.length)) (hat : at1 ≠ [] → k 0 0 = lN (nmL (at1.take 6)) ∧ g 0 9 = (if dgs at1 then 1 else 0) ∧ g 0 10 = (if at1.head? = some 45 then 1 else 0) ∧ g 0 11 = nI (amt at1))
    (kk : ∀ a k1, LF g k a k1 → a 0 8 = nI (min 6 (at1 ++ [c]).length) → k1 0 0 = lN (nmL ((at1 ++ [c]).take 6)) → a 0 11 = nI (amt (at1 ++ [c])) → a 0 9 = (if dgs (at1 ++ [c]) then 1 else 0) → a 0 10 = (if (at1 ++ [c]).head? = some 45 then 1 else 0) → post a k1) : V_X12_letter (nI c) g k post := by
  have split3 : ∀ (g1 : St) (k1 : StL), (∀ y, (y = if isDg c then 1 else 0) → V_X12_letter_54 post (nI c) y g1 k1) → ((nI c < (48 : Int32) → V_X12_letter_54 post (nI c) (0 : Int32) g1 k1) ∧ (¬ nI c < (48 : Int32) → (((57 : Int32) < nI c → V_X12_letter_54 post (nI c) (0 : Int32) g1 k1) ∧ (¬ (57 : Int32) < nI c → V_X12_letter_54 post (nI c) (1 : Int32) g1 k1)))) := by
    intro g1 k1 w
    refine ⟨fun q => w 0 ?_, fun q => ⟨fun q2 => w 0 ?_, fun q2 => w 1 ?_⟩⟩
    · have := (nI_ltI (b := 48) (by omega) (by decide)).mp q
      rw [if_neg (by simp [isDg]; omega)]
    · have := (nI_ltI (a := 57) (by decide) (by omega)).mp q2
      rw [if_neg (by simp [isDg]; omega)]
    · have a1 : ¬ c < 48 := fun z => q (nI_lt (b := 48) z (by decide))
      have a2 : ¬ 57 < c := fun z => q2 (nI_lt (a := 57) z (by omega))
      rw [if_pos (by simp [isDg]; omega)]
  unfold V_X12_letter
  rw [h8]
  refine ⟨fun q => ?_, fun q => ?_⟩
  · have hne : at1 ≠ [] := fun e => q (by rw [e]; rfl)
    obtain ⟨e1, e2, e3, e4⟩ := hat hne
    refine split3 g k (fun y hy => ?_)
    refine r_letter54 hc LF.rfl h8 e1 e4 e2 hy (fun a k1 b1 b2 b3 b4 b5 b6 => kk a k1 b1 b2 b3 b4 b5 ?_)
    rw [b6, e3]
    cases at1 with
    | nil => exact absurd rfl hne
    | cons x l => rfl
  · have e : at1 = [] := by
      have := nI_inj (b := 0) (by omega) (by decide) q
      exact List.length_eq_zero_iff.mp (by omega)
    subst e
    refine eqI (eqI (eqI ?_))
    have base : ∀ x, LF g k (us (us (us g 11 0) 9 1) 10 x) (usL k 0 0) := fun x => (((LF.rfl.usL 0).us 0 (Or.inr (Or.inr (Or.inr rfl)))).us 1 (Or.inr (Or.inl rfl))).us x (Or.inr (Or.inr (Or.inl rfl)))
    refine ⟨fun c2 => eqI ?_, fun c2 => eqI ?_⟩
    · refine split3 _ _ (fun y hy => ?_)
      refine r_letter54 (at1 := []) hc (base 0) h8 rfl rfl rfl hy (fun a k1 b1 b2 b3 b4 b5 b6 => kk a k1 b1 b2 b3 b4 b5 ?_)
      rw [b6]
      have : ¬ c = 45 := fun h => c2 (by rw [h]; rfl)
      show (0 : Int32) = if some c = some 45 then 1 else 0
      rw [if_neg (by simpa using this)]
    · refine split3 _ _ (fun y hy => ?_)
      refine r_letter54 (at1 := []) hc (base 1) h8 rfl rfl rfl hy (fun a k1 b1 b2 b3 b4 b5 b6 => kk a k1 b1 b2 b3 b4 b5 ?_)
      rw [b6]
      have : c = 45 := nI_inj (b := 45) (by omega) (by decide) c2
      show (1 : Int32) = if some c = some 45 then 1 else 0
      rw [if_pos (by rw [this])]
