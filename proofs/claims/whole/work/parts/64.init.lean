-- ===== the beginning =====
theorem and127 (x : Int32) : (x &&& 127).toInt = x.toInt % 128 := by
  have e : (x &&& 127).toBitVec = x.toBitVec &&& 127#32 := Int32.toBitVec_and x 127
  have n1 : (x &&& 127).toBitVec.toNat = x.toBitVec.toNat % 128 := by
    rw [e, BitVec.toNat_and]
    exact Nat.and_two_pow_sub_one_eq_mod x.toBitVec.toNat 7
  have hl := x.toBitVec.isLt
  show (x &&& 127).toBitVec.toInt = x.toBitVec.toInt % 128
  rw [BitVec.toInt_eq_toNat_cond, BitVec.toInt_eq_toNat_cond, n1]
  split <;> split <;> omega
theorem xor128 (x : Int32) : 0 ≤ (x ^^^ 128) ↔ 0 ≤ x.toInt := by
  rw [Int32.le_iff_toInt_le]
  have e : (x ^^^ 128).toBitVec = x.toBitVec ^^^ 128#32 := Int32.toBitVec_xor x 128
  have m : (x ^^^ 128).toBitVec.msb = x.toBitVec.msb := by
    rw [e, BitVec.msb_xor]
    have : (128#32 : BitVec 32).msb = false := by decide
    rw [this, Bool.xor_false]
  show 0 ≤ (x ^^^ 128).toBitVec.toInt ↔ 0 ≤ x.toBitVec.toInt
  cases h : x.toBitVec.msb with
  | true =>
    have a1 := BitVec.toInt_neg_of_msb_true h
    have a2 := BitVec.toInt_neg_of_msb_true (m.trans h)
    omega
  | false =>
    have a1 := BitVec.toInt_nonneg_of_msb_false h
    have a2 := BitVec.toInt_nonneg_of_msb_false (m.trans h)
    omega
theorem floor128 (x : Int32) {post : Int32 → Prop} (k : post (x &&& 127)) : V_J9_floorMod_7cf53 x 128 post := by
  obtain ⟨h, h1, h2, rfl⟩ := iI_of x
  have e127 : iI h &&& 127 = iI (h % 128) := by
    rw [← Int32.toInt_inj, and127, iI_toInt h1 h2, iI_toInt (by omega) (by omega)]
  rw [e127] at k
  have ed : iI h / 128 = iI (h.tdiv 128) := by
    have hb : -2147483648 ≤ h.tdiv 128 ∧ h.tdiv 128 < 2147483648 := by
      rcases Int.le_total 0 h with z | z
      · rw [Int.tdiv_eq_ediv_of_nonneg z]; omega
      · have e : h = -(-h) := by omega
        rw [e, Int.neg_tdiv, Int.tdiv_eq_ediv_of_nonneg (by omega)]; omega
    rw [← Int32.toInt_inj, Int32.toInt_div_of_ne_right _ _ (by decide), iI_toInt h1 h2, iI_toInt hb.1 hb.2]
    rfl
  have er : iI h - iI h / 128 * 128 = iI (h - h.tdiv 128 * 128) := by
    rw [ed, show (128 : Int32) = iI 128 from rfl, iI_mul, iI_sub]
  unfold V_J9_floorMod_7cf53
  refine ⟨by decide, eqI ?_⟩
  rw [er, xor128, iI_toInt h1 h2]
  refine ⟨fun c => ?_, fun c => ?_⟩
  · rw [Int.tdiv_eq_ediv_of_nonneg c, show h - h / 128 * 128 = h % 128 by omega]
    exact k
  · have e : h = -(-h) := by omega
    have e2 : h - h.tdiv 128 * 128 = -((-h) % 128) := by
      have : h.tdiv 128 = -((-h) / 128) := by
        have := Int.neg_tdiv (-h) 128
        rw [← e] at this
        rw [this, Int.tdiv_eq_ediv_of_nonneg (by omega)]
      rw [this]; omega
    rw [e2]
    refine ⟨fun c2 => ?_, fun c2 => ?_⟩
    · have : -((-h) % 128) = 0 := (iI_eq (b := 0) (by omega) (by omega) (by decide) (by decide)).mp c2
      rw [show -((-h) % 128) = h % 128 by omega]; exact k
    · have : ¬ -((-h) % 128) = 0 := fun z => c2 (by rw [z]; rfl)
      rw [show (128 : Int32) = iI 128 from rfl, iI_add, show -((-h) % 128) + 128 = h % 128 by omega]; exact k
theorem ch_nar : ∀ c : Fin 128, vp_nar .char ((((nI c.1) &&& (255 : Int32))).toUInt32 % 65536).toInt32 = nI c.1 := by decide +kernel
theorem c_chars {i : Nat} {l : List Nat} {n : Nat} {post : (Nat → Int32) → Prop} (hi : i < 37) (hl : STL.getD i [] = l.map nI) (hc : nmOK l) (h5 : l.length ≤ 5) (hn : 10 ≤ n) (k : ∀ f, (∀ t, t < l.length → f t = nI (l.getD t 0)) → post f) : V_toChars n i post := by
  unfold V_toChars V_J1_inflate_03870
  refine ⟨hi, eqI ?_⟩
  have hlen : (STL.getD i []).length = l.length := by rw [hl]; simp
  have loop : ∀ (n t : Nat) (g : St), 6 - t < n → t ≤ l.length → (∀ s, s < t → g 0 s = nI (l.getD s 0)) → V_J1_inflate_03870_3 l.length (fun g => post (g 0)) n i (nI t) (nI t) (nI l.length) (nI t) g := by
    intro n
    induction n with
    | zero => intro t g h; omega
    | succ n ih =>
      intro t g h1 h2 h3
      unfold V_J1_inflate_03870_3
      refine ⟨fun c => ?_, fun c => ?_⟩
      · have := (nI_leI (a := l.length) (b := t) (by omega) (by omega)).mp c
        exact k _ (fun s hs => h3 s (by omega))
      · have hlt : t < l.length := by
          rcases Nat.lt_or_ge t l.length with z | z
          · exact z
          · exact absurd ((nI_leI (a := l.length) (b := t) (by omega) (by omega)).mpr z) c
        rw [nI_1]
        refine eqI (eqI ⟨hi, by rw [hlen]; exact vp_in_nI hlt (by omega), vp_in_nI hlt (by omega), eqI (eqI ?_)⟩)
        rw [nI_clamp (by omega), hl]
        have hval : (l.map nI).getD t 0 = nI (l.getD t 0) := by
          rw [List.getD_eq_getElem?_getD, List.getD_eq_getElem?_getD, List.getElem?_map, List.getElem?_eq_getElem hlt]; rfl
        have hch : l.getD t 0 < 128 := by
          rw [List.getD_eq_getElem?_getD, List.getElem?_eq_getElem hlt]
          exact (hc _ (List.getElem_mem hlt)).2
        rw [hval, ch_nar ⟨l.getD t 0, hch⟩]
        refine ih (t + 1) _ (by omega) hlt (fun s hs => ?_)
        rw [upA]
        by_cases e : s = t
        · subst e; rw [updE]
        · rw [updN _ _ e]; exact h3 s (by omega)
  rw [hlen]
  exact loop n 0 _ (by omega) (Nat.zero_le _) (fun s hs => absurd hs (Nat.not_lt_zero _))
def namI : Nat → List Nat := namS (namS (namS (fun _ => []) 0 [116] true) 1 [105, 116] true) 2 [113, 117, 111, 116, 101] true
def svI : Nat → Option Va := fun s => if s = 0 then some (vsym 0) else none
theorem opI : ∀ i : Fin 31, KM0 2 i.1 = lN (nmL (OPTX.getD (i.1 + 1) [])) ∧ fewM i.1 = FEWL.getD (i.1 + 1) 0 ∧ mostM i.1 = (if MOSTL.getD (i.1 + 1) 0 = 1000000 then 9999 else MOSTL.getD (i.1 + 1) 0) := by decide +kernel
theorem ln1 (s : Nat) : (namS (fun _ => []) 0 [116] true s).length ≤ 5 := by
  show (if s = 0 then [116] else []).length ≤ 5
  split <;> decide
theorem ln2 (s : Nat) : (namS (namS (fun _ => []) 0 [116] true) 1 [105, 116] true s).length ≤ 5 := by
  show (if s = 1 then [105, 116] else if s = 0 then [116] else []).length ≤ 5
  split
  · decide
  · split <;> decide
theorem c_initS {n : Nat} {post : St → Prop} (hn : 100 ≤ n) (k : ∀ g, SymC g 3 namI svI (fun _ => 0) → post g) : V_X9_init n post := by
  have nm1 : nmOK [116] := by intro x hx; simp at hx; omega
  have nm2 : nmOK [105, 116] := by intro x hx; simp at hx; omega
  have nm3 : nmOK [113, 117, 111, 116, 101] := by intro x hx; simp at hx; omega
  have S0 : ∀ f, SymC (mx (fun _ _ => 0) 5 f) 0 (fun _ => []) (fun _ => none) (fun _ => 0) := fun f => ⟨rfl, fun s hs => absurd hs (Nat.not_lt_zero _), fun _ _ _ => ⟨rfl, rfl⟩⟩
  unfold V_X9_init
  refine c_chars (l := [116]) (by decide) rfl nm1 (by decide) (by omega) (fun f0 h0 => ?_)
  refine c_add (l := [116]) (sy := 0) (by decide) (by decide) (by omega) (by decide) nm1 (by decide) rfl h0 (fun r a1 a2 => ?_)
  have S1 := symC_step (l := [116]) (b := true) (h1 := addS (mx (fun _ _ => 0) 5 f0) 0 [116] r) (S0 f0) ⟨r, a1, a2, rfl, rfl, rfl, rfl, rfl⟩ (fun _ => by decide) (fun s hs => absurd hs (Nat.not_lt_zero _))
  refine c_chars (l := [105, 116]) (by decide) rfl nm2 (by decide) (by omega) (fun f1 h1 => ?_)
  refine c_add (l := [105, 116]) (sy := 1) (by decide) (by decide) (by omega) (by decide) nm2 (by decide) rfl h1 (fun r1 b1 b2 => ?_)
  have S2 := symC_step (l := [105, 116]) (b := true) (h := mx (addS (mx (fun _ _ => 0) 5 f0) 0 [116] r) 5 f1) (h1 := addS (mx (addS (mx (fun _ _ => 0) 5 f0) 0 [116] r) 5 f1) 1 [105, 116] r1) S1 ⟨r1, b1, b2, rfl, rfl, rfl, rfl, rfl⟩ (fun _ => by decide) (fun s _ => ln1 s)
  refine c_chars (l := [113, 117, 111, 116, 101]) (by decide) rfl nm3 (by decide) (by omega) (fun f2 h2 => ?_)
  refine c_add (l := [113, 117, 111, 116, 101]) (sy := 2) (by decide) (by decide) (by omega) (by decide) nm3 (by decide) rfl h2 (fun r2 c1 c2 => ?_)
  have S3 := symC_step (l := [113, 117, 111, 116, 101]) (b := true) (h := mx (addS (mx (addS (mx (fun _ _ => 0) 5 f0) 0 [116] r) 5 f1) 1 [105, 116] r1) 5 f2) (h1 := addS (mx (addS (mx (addS (mx (fun _ _ => 0) 5 f0) 0 [116] r) 5 f1) 1 [105, 116] r1) 5 f2) 2 [113, 117, 111, 116, 101] r2) S2 ⟨r2, c1, c2, rfl, rfl, rfl, rfl, rfl⟩ (fun _ => by decide) (fun s _ => ln2 s)
  refine v_of (t := 3) (h := 0) (by decide) ?_
  unfold V_X9_setWord
  refine c_has (s := 0) (sy := 3) rfl (by decide) (by decide) ⟨fun c => absurd c (by decide), fun _ => ⟨vp_in_nI (n := 0) (by decide) (by decide), eqI (k _ ?_)⟩⟩
  obtain ⟨s1, s2, s3⟩ := S3
  refine ⟨s1, fun s hs => ?_, fun s h1 h2 => ?_⟩
  · obtain ⟨t1, t2, t3, t4, t5⟩ := s2 s hs
    refine ⟨t1, t2, fun e => ?_, fun v e => ?_, t5⟩
    · have h0 : s ≠ 0 := fun c => by rw [c] at e; cases e
      rw [upA, show (0 : Int32).toNatClampNeg = 0 from rfl, updN _ _ h0]
      rfl
    · by_cases h0 : s = 0
      · subst h0
        cases e
        rw [upA, show (0 : Int32).toNatClampNeg = 0 from rfl, updE]; rfl
      · rw [svI, if_neg h0] at e; cases e
  · refine ⟨?_, (s3 s h1 h2).2⟩
    rw [upA, show (0 : Int32).toNatClampNeg = 0 from rfl, updN _ _ (by omega)]
    exact (s3 s h1 h2).1
theorem usum_none : ∀ n, usum (fun _ => none) n = 0
  | 0 => rfl
  | n + 1 => by show usum (fun _ => none) n + 0 = 0; rw [usum_none n]
theorem vp0 (n : Nat) (h : 0 < n) (h2 : n < 2 ^ 31) : vp_in (0 : Int32) n := vp_in_nI (n := 0) h h2
theorem r_initS {g0 : St} {k0 : StL} {n : Nat} {post : St → StL → Prop} (hn : 200 ≤ n) (hg : g0 0 2 = nI 0) (hh : ∀ s, g0 2 s = 0) (hk1 : ∀ s, k0 1 s = 0) (hk : ∀ i, i < 31 → k0 2 i = lN (nmL (OPTX.getD (i + 1) []))) (k : ∀ g k, SymM (g 0 2) (g 1) (g 2) (g 3) (k 1) 3 namI svI → (∀ b, b ≠ 0 → b ≠ 1 → b ≠ 2 → b ≠ 3 → g b = g0 b) → (∀ i, i ≠ 2 → g 0 i = g0 0 i) → k 2 = k0 2 → post g k) {x : Int32} : V_X12_tail n x g0 k0 post := by
  have nm1 : nmOK [116] := by intro x hx; simp at hx; omega
  have nm2 : nmOK [105, 116] := by intro x hx; simp at hx; omega
  have nm3 : nmOK [113, 117, 111, 116, 101] := by intro x hx; simp at hx; omega
  have S0 : SymM (g0 0 2) (g0 1) (g0 2) (g0 3) (k0 1) 0 (fun _ => []) (fun _ => none) := ⟨hg, fun s hs => absurd hs (Nat.not_lt_zero _), fun s _ _ => ⟨hh s, hk1 s⟩⟩
  have S1 := symM_step (l := [116]) S0 (by decide)
  have S2 := symM_step (l := [105, 116]) S1 (by decide)
  have S3 := symM_step (l := [113, 117, 111, 116, 101]) S2 (by decide)
  have q1 : (116 : Int64) = lN (nmL [116]) := by decide +kernel
  have q2 : (13556 : Int64) = lN (nmL [105, 116]) := by decide +kernel
  have q3 : k0 2 0 = lN (nmL [113, 117, 111, 116, 101]) := hk 0 (by decide)
  unfold V_X12_tail V_X12_symbolOf
  refine eqI ?_
  rw [q1]
  refine (r_symL (l := [116]) (sy := 0) (nam := fun _ => []) nm1 (by decide) (by decide) hg (fun s hs => absurd hs (Nat.not_lt_zero _)) hk (fun s h => by cases h) (fun _ c => absurd c (by decide)) (fun _ _ => ?_) n 0 (by omega) (Nat.le_refl _) (fun m hm => absurd hm (Nat.not_lt_zero _)))
  refine eqI ?_
  rw [q2]
  refine (r_symL (l := [105, 116]) (k := upL k0 1 0 (lN (nmL [116]))) (sy := 1) (nam := namS (fun _ => []) 0 [116] true) nm2 (by decide) (by decide) rfl (fun s hs => ⟨ln1 s, ?_, (S1.2.1 s hs).1⟩) hk (fun s h => ?_) (fun _ c => absurd c (by decide)) (fun _ _ => ?_) n 0 (by omega) (by decide) (fun m hm => absurd hm (Nat.not_lt_zero _)))
  · have : s = 0 := by omega
    subst this; exact nm1
  · rw [fnd_none (fun m hm => ?_)] at h
    · cases h
    · have : m = 0 := by omega
      subst this; decide
  refine ⟨vp0 31 (by decide) (by decide), eqI ?_⟩
  have e5 : (upL (upL k0 1 0 (lN (nmL [116]))) 1 1 (lN (nmL [105, 116]))) 2 (0 : Int32).toNatClampNeg = k0 2 0 := rfl
  rw [e5, q3]
  refine (r_symL (l := [113, 117, 111, 116, 101]) (k := upL (upL k0 1 0 (lN (nmL [116]))) 1 1 (lN (nmL [105, 116]))) (sy := 2) (nam := namS (namS (fun _ => []) 0 [116] true) 1 [105, 116] true) nm3 (by decide) (by decide) rfl (fun s hs => ⟨ln2 s, ?_, (S2.2.1 s hs).1⟩) hk (fun s h => ?_) (fun _ c => absurd c (by decide)) (fun _ _ => ?_) n 0 (by omega) (by decide) (fun m hm => absurd hm (Nat.not_lt_zero _)))
  · have : s = 0 ∨ s = 1 := by omega
    rcases this with rfl | rfl
    · exact nm1
    · exact nm2
  · rw [fnd_none (fun m hm => ?_)] at h
    · cases h
    · have : m = 0 ∨ m = 1 := by omega
      rcases this with rfl | rfl <;> decide
  refine ⟨vp0 40 (by decide) (by decide), eqI (r_code (v := vsym 0) (by show 0 < 40; decide) rfl rfl ⟨vp0 40 (by decide) (by decide), eqI (k _ _ ?_ (fun b h0 h1 h2 h3 => ?_) (fun i h2 => ?_) rfl)⟩)⟩
  · obtain ⟨s1, s2, s3⟩ := S3
    refine ⟨rfl, fun s hs => ?_, fun s h1 h2 => ?_⟩
    · obtain ⟨t1, t2, t3, t4⟩ := s2 s hs
      refine ⟨t1, t2, fun e => ?_, fun v e => ?_⟩
      · have h0 : s ≠ 0 := fun c => by rw [c] at e; cases e
        rw [upB _ _ _ (by decide), upA, show (0 : Int32).toNatClampNeg = 0 from rfl, updN _ _ h0]
        exact hh s
      · by_cases h0 : s = 0
        · subst h0
          cases e
          exact ⟨by rw [upB _ _ _ (by decide), upA, show (0 : Int32).toNatClampNeg = 0 from rfl, updE]; rfl, by rw [upA, show (0 : Int32).toNatClampNeg = 0 from rfl, updE]⟩
        · rw [svI, if_neg h0] at e; cases e
    · refine ⟨?_, (s3 s h1 h2).2⟩
      rw [upB _ _ _ (by decide), upA, show (0 : Int32).toNatClampNeg = 0 from rfl, updN _ _ (by omega)]
      exact hh s
  · rw [upB _ _ _ h3, upB _ _ _ h2, usZ h0, upB _ _ _ h1, usZ h0, upB _ _ _ h1, usZ h0, upB _ _ _ h1]
  · rw [upB _ _ _ (by decide), upB _ _ _ (by decide), us0, if_neg h2, upB _ _ _ (by decide), us0, if_neg h2, upB _ _ _ (by decide), us0, if_neg h2, upB _ _ _ (by decide)]
theorem hinit (x : Int32) : ∃ n, V_X11_init n x (fun N G => ∃ n2, V_X12_init n2 x (fun g k => Inv 0 N G g k (fun _ => 0))) := by
  refine ⟨1000, ?_⟩
  unfold V_X11_init
  refine c_initS (by decide) (fun gs hS => floor128 x ?_)
  obtain ⟨h, h1, h2, rfl⟩ := iI_of x
  have e127 : iI h &&& 127 = nI (h % 128).toNat := by
    rw [← iI_nat, ← Int32.toInt_inj, and127, iI_toInt h1 h2, iI_toInt (by omega) (by omega)]
    omega
  have e40 : (40 : Int32) + (iI h &&& 127) = nI (40 + (h % 128).toNat) := by
    rw [e127, show (40 : Int32) = nI 40 from rfl, nI_add]
  refine ⟨40 + (h % 128).toNat, ⟨by omega, e40⟩, 1000, ?_⟩
  unfold V_X12_init
  rw [e40]
  refine r_initS (by decide) rfl (fun _ => rfl) (fun _ => rfl) (fun i hi => (opI ⟨i, hi⟩).1) (fun g k hM hb hi hk => ?_)
  have hz : (h % 128).toNat < 128 := by omega
  refine Inv_of 0 _ (40 + (h % 128).toNat) 3 namI svI (fun _ => (vnil, vnil)) 0 0 (fun _ _ => False) (fun _ => False) 2048 0 (fun _ => none) (fun _ => 0) 2048 0 (fun _ => 0) 0 [] [] 0 (fun _ => 0) ?_ ?_ ?_
  · refine ⟨by decide, by omega, by omega, ⟨by decide, by decide, rfl, rfl, rfl, fun s hs => ?_⟩, fun s v hs hv => ?_, fun _ _ c => c.elim, fun _ c => c.elim, fun i hi => absurd hi (Nat.not_lt_zero _), usum_none 168, Nat.zero_le _, fun _ c => (by cases c), fun _ c => (by cases c), Nat.le_refl _, Nat.le_refl _⟩
    · have : s = 0 ∨ s = 1 ∨ s = 2 := by omega
      rcases this with rfl | rfl | rfl <;> exact ⟨by decide, by decide⟩
    · by_cases h0 : s = 0
      · rw [svI, if_pos h0] at hv; cases hv; show 0 < 40; decide
      · rw [svI, if_neg h0] at hv; cases hv
  · refine ⟨rfl, rfl, rfl, hS, ⟨rfl, rfl, rfl, rfl, Nat.le_refl _, Nat.le_refl _, Nat.le_refl _, Nat.le_refl _, fun _ _ c => c.elim, fun _ _ _ c => c.elim, fun _ _ _ c => c.elim, fun x c => absurd c (Nat.not_lt_zero _), fun i x c => c.elim (fun c => c.elim) (fun c => absurd c.2.1 (Nat.not_lt_zero _)), fun i c => absurd c (Nat.not_lt_zero _)⟩, ⟨fun _ _ c => (by cases c), fun _ _ _ _ c => (by cases c)⟩, fun _ _ c => (by cases c), rfl, rfl, Or.inl rfl, rfl, Nat.le_refl _, rfl, rfl, ⟨0, by decide, rfl, rfl, Nat.zero_le _, fun i c => absurd c (Nat.not_lt_zero _)⟩, ⟨0, by decide, rfl, rfl, Nat.zero_le _, fun i c => absurd c (Nat.not_lt_zero _)⟩, ⟨rfl, rfl, rfl, rfl, rfl, rfl⟩, ⟨rfl, fun i c => absurd c (Nat.not_lt_zero _)⟩, ⟨rfl, fun i c => absurd c (Nat.not_lt_zero _)⟩, ⟨rfl, fun i c => absurd c (Nat.not_lt_zero _)⟩, 0, by decide, rfl⟩
  · refine ⟨hi 1 (by decide), fun i h => ?_, hM, ⟨hi 3 (by decide), fun i c => absurd c (Nat.not_lt_zero _)⟩, fun s hs => ⟨fun _ => ?_, fun o c => (by cases c)⟩, hi 4 (by decide), hi 7 (by decide), hi 8 (by decide), ⟨hi 24 (by decide), fun i c => absurd c (Nat.not_lt_zero _)⟩, ⟨hi 25 (by decide), fun i c => absurd c (Nat.not_lt_zero _)⟩, hi 5 (by decide), hi 6 (by decide), hi 19 (by decide), hi 21 (by decide), hi 22 (by decide), hi 23 (by decide), hi 12 (by decide), hi 13 (by decide)⟩
    · rw [hk, hb 4 (by decide) (by decide) (by decide) (by decide), hb 5 (by decide) (by decide) (by decide) (by decide)]
      exact opI ⟨i, h⟩
    · rw [hb 8 (by decide) (by decide) (by decide) (by decide)]; rfl
