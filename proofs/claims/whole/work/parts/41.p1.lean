-- ===== stacks, queues, the heap's words: by what they hold =====
theorem nI_m1 (h : Nat) : nI h - 1 = iI ((h : Int) - 1) := by rw [← iI_nat h, show (1 : Int32) = iI 1 from rfl, iI_sub]
def StkR (g : St) (l : List Int32) : Prop := g 0 0 = nI l.length ∧ ∀ i, i < l.length → g 1 i = l.getD (l.length - 1 - i) 0
theorem v_push {N : Nat} {w : Int32} {g : St} {l : List Int32} {post : St → Prop} (hg : StkR g l) (hN : l.length < N) (hN2 : N < 2 ^ 31) (k : ∀ g1, StkR g1 (w :: l) → post g1) : V_X8_push N w g post := by
  unfold V_X8_push
  rw [hg.1]
  refine ⟨fun c => absurd c (nI_ge hN hN2), fun _ => ⟨vp_in_nI hN hN2, ?_⟩⟩
  rw [nI_clamp (by omega)]
  intro g2 e2 g3 e3
  apply k
  subst e2; subst e3
  refine ⟨?_, fun i hi => ?_⟩
  · show (up g 1 l.length w 0 0) + 1 = _
    show g 0 0 + 1 = _
    rw [hg.1, List.length_cons]; exact nI_1 _
  · show upd (g 1) l.length w i = _
    rw [List.length_cons] at hi
    by_cases h : i = l.length
    · subst h
      rw [updE, List.length_cons, Nat.add_sub_cancel, Nat.sub_self]; rfl
    · rw [updN _ _ h, hg.2 i (by omega), List.length_cons, show l.length + 1 - 1 - i = (l.length - 1 - i) + 1 by omega]; rfl
theorem v_at {N b : Nat} {g : St} {l : List Int32} {post : Int32 → St → Prop} (hg : StkR g l) (hb : b < l.length) (hl : l.length ≤ N) (hN2 : N < 2 ^ 31) (k : post (l.getD (l.length - 1 - b) 0) g) : V_X8_at N (nI b) g post := by
  unfold V_X8_at
  rw [hg.1, ofN]
  refine ⟨fun c => absurd c (nI_pos (by omega)), fun _ => ⟨fun c => absurd c (nI_ge hb (by omega)), fun _ => ⟨fun c => absurd c (nI_ge (by omega) hN2), fun _ => ⟨vp_in_nI (by omega) hN2, ?_⟩⟩⟩⟩
  rw [nI_clamp (by omega), hg.2 b hb]
  exact k
theorem v_atNeg {N : Nat} {x : Int} {g : St} {post : Int32 → St → Prop} (h : x < 0) (h2 : -2147483648 ≤ x) (k : post 1 g) : V_X8_at N (iI x) g post := by
  unfold V_X8_at
  have hx : iI x < 0 := by
    rw [show (0 : Int32) = iI 0 from rfl, iI_lt h2 (by omega) (by omega) (by omega)]; exact h
  exact ⟨fun _ => k, fun c => absurd hx c⟩
theorem v_atOut {N b : Nat} {g : St} {l : List Int32} {post : Int32 → St → Prop} (hg : StkR g l) (hb : l.length ≤ b) (hb2 : b < 2 ^ 31) (k : post 1 g) : V_X8_at N (nI b) g post := by
  unfold V_X8_at
  rw [hg.1]
  exact ⟨fun c => absurd c (nI_pos hb2), fun _ => ⟨fun _ => k, fun c => absurd (nI_le hb hb2) c⟩⟩
theorem v_peek {N b : Nat} {g : St} {l : List Int32} {post : Int32 → St → Prop} (hg : StkR g l) (hb : b < l.length) (hl : l.length ≤ N) (hN2 : N < 2 ^ 31) (k : post (l.getD b 0) g) : V_X8_peek N (nI b) g post := by
  unfold V_X8_peek
  rw [hg.1, show (1 : Int32) = nI 1 from rfl, nI_sub (by omega), nI_sub (by omega)]
  refine v_at hg (by omega) hl hN2 ?_
  rw [show l.length - 1 - (l.length - 1 - b) = b by omega]
  exact k
theorem v_peekOut {N b : Nat} {g : St} {l : List Int32} {post : Int32 → St → Prop} (hg : StkR g l) (hb : l.length ≤ b) (hb2 : b < 1000000) (k : post 1 g) : V_X8_peek N (nI b) g post := by
  unfold V_X8_peek
  rw [hg.1, nI_m1, ← iI_nat b, iI_sub]
  exact v_atNeg (by omega) (by omega) k
theorem v_peekTop {N : Nat} {g : St} {l : List Int32} {post : Int32 → St → Prop} (hg : StkR g l) (hl : l.length < 2 ^ 31) (k : post 1 g) : V_X8_peek N (-1 : Int32) g post := by
  unfold V_X8_peek
  rw [hg.1, nI_m1, show (-1 : Int32) = iI (-1) from rfl, iI_sub, show (l.length : Int) - 1 - -1 = (l.length : Int) by omega, iI_nat]
  exact v_atOut hg (Nat.le_refl _) hl k
theorem getDdrop {l : List Int32} (n i : Nat) : (l.drop n).getD i 0 = l.getD (n + i) 0 := by
  simp [List.getD_eq_getElem?_getD, List.getElem?_drop]
theorem v_cut {N n : Nat} {g : St} {l : List Int32} {post : St → Prop} (hg : StkR g l) (hn : n ≤ l.length) (hl : l.length < 2 ^ 31) (k : ∀ g1, StkR g1 (l.drop (l.length - n)) → post g1) : V_X8_cut N (nI n) g post := by
  unfold V_X8_cut
  refine ⟨fun c => absurd c (nI_pos (by omega)), fun _ => ⟨fun c => ?_, fun c g3 e3 => ?_⟩⟩
  · rw [hg.1] at c
    have h : l.length = n := by
      have := (nI_leI (by omega) (by omega)).mp c
      omega
    apply k
    rw [h, Nat.sub_self, List.drop_zero]; exact hg
  · subst e3
    apply k
    refine ⟨?_, fun i hi => ?_⟩
    · show nI n = _
      rw [List.length_drop]; congr 1; omega
    · rw [List.length_drop] at hi
      show g 1 i = _
      rw [hg.2 i (by omega), getDdrop, List.length_drop]
      congr 1; omega
theorem v_pop {N : Nat} {w : Int32} {g : St} {l : List Int32} {post : Int32 → St → Prop} (hg : StkR g (w :: l)) (hl : l.length < N) (hN2 : N < 2 ^ 31) (k : ∀ g1, StkR g1 l → post w g1) : V_X8_pop N g post := by
  unfold V_X8_pop
  refine v_peek (b := 0) hg (by simp) (by rw [List.length_cons]; omega) hN2 ?_
  rw [hg.1, List.length_cons, show (1 : Int32) = nI 1 from rfl, nI_sub (by omega), Nat.add_sub_cancel]
  refine v_cut hg (by simp) (by rw [List.length_cons]; omega) (fun g1 h1 => ?_)
  rw [List.length_cons, show l.length + 1 - l.length = 1 by omega, List.drop_one, List.tail_cons] at h1
  exact k g1 h1
-- queues
def QuR (N : Nat) (g : St) (l : List Int32) : Prop := ∃ o, o < N ∧ g 0 0 = nI o ∧ g 0 1 = nI l.length ∧ l.length ≤ N ∧ ∀ i, i < l.length → g 1 (if o + i < N then o + i else o + i - N) = l.getD i 0
theorem v_full {N : Nat} {g : St} {l : List Int32} {post : Int32 → St → Prop} (hN2 : N < 2 ^ 31) (hg : QuR N g l) (k1 : l.length < N → post 0 g) (k2 : l.length = N → post 1 g) : V_X5_isFull N g post := by
  obtain ⟨o, h1, h2, h3, h4, h5⟩ := hg
  unfold V_X5_isFull
  rw [h3, ofN]
  refine ⟨fun c => k1 ((nI_ltI (by omega) (by omega)).mp c), fun c => k2 ?_⟩
  rcases Nat.lt_or_ge l.length N with z | z
  · exact absurd ((nI_ltI (a := l.length) (b := N) (by omega) (by omega)).mpr z) c
  · omega
theorem v_addQ {N : Nat} {x : Int32} {g : St} {l : List Int32} {post : St → Prop} (hN2 : N < 2 ^ 29) (hg : QuR N g l) (k1 : l.length < N → ∀ g1, QuR N g1 (l ++ [x]) → post g1) (k2 : l.length = N → post g) : V_X5_add N x g post := by
  obtain ⟨o, h1, h2, h3, h4, h5⟩ := id hg
  have fin : ∀ p, p = (if o + l.length < N then o + l.length else o + l.length - N) → V_X5_add_27 N post x (nI p) g := by
    intro p hp
    have hpN : p < N := by rw [hp]; split <;> omega
    unfold V_X5_add_27
    rw [h3, ofN]
    refine ⟨fun c => ?_, fun c => ⟨fun c2 => absurd c2 (nI_pos (by omega)), fun _ => ⟨fun c2 => absurd c2 (nI_ge hpN (by omega)), fun _ => ⟨vp_in_nI hpN (by omega), ?_⟩⟩⟩⟩
    · have := (nI_leI (by omega) (by omega)).mp c
      exact k2 (by omega)
    · have hlt : l.length < N := by
        rcases Nat.lt_or_ge l.length N with z | z
        · exact z
        · exact absurd (nI_le z (by omega)) c
      rw [nI_clamp (by omega)]
      intro g4 e4 g5 e5
      subst e4; subst e5
      refine k1 hlt _ ⟨o, h1, h2, ?_, ?_, fun i hi => ?_⟩
      · show g 0 1 + 1 = _
        rw [h3, List.length_append]; exact nI_1 _
      · rw [List.length_append]; show l.length + 1 ≤ N; omega
      · rw [List.length_append] at hi
        have hi : i < l.length + 1 := hi
        show upd (g 1) p x _ = _
        by_cases e : i = l.length
        · subst e
          rw [← hp, updE]
          simp [List.getD_eq_getElem?_getD]
        · rw [updN _ _ (by rw [hp]; split <;> split <;> omega), h5 i (by omega)]
          simp [List.getD_eq_getElem?_getD, List.getElem?_append_left (show i < l.length by omega)]
  unfold V_X5_add
  intro x6 e6
  rw [h2, h3, nI_add] at e6
  subst e6
  rw [ofN]
  refine ⟨fun c => ?_, fun c x8 e8 => ?_⟩
  · have := (nI_ltI (by omega) (by omega)).mp c
    exact fin _ (by rw [if_pos this])
  · have : ¬ o + l.length < N := fun z => c ((nI_ltI (by omega) (by omega)).mpr z)
    subst e8
    rw [nI_sub (by omega)]
    exact fin _ (by rw [if_neg this])
theorem v_rem {N : Nat} {x : Int32} {g : St} {l : List Int32} {post : Int32 → St → Prop} (hN2 : N < 2 ^ 29) (hg : QuR N g (x :: l)) (k : ∀ g1, QuR N g1 l → post x g1) : V_X5_removeOldest N g post := by
  obtain ⟨o, h1, h2, h3, h4, h5⟩ := hg
  rw [List.length_cons] at h3 h4
  have hx : g 1 o = x := by
    have := h5 0 (by simp)
    rw [Nat.add_zero, if_pos h1] at this
    exact this
  have rest : ∀ (p : Nat), p < N → p = (if o + 1 < N then o + 1 else 0) → ∀ g1 : St, g1 0 0 = nI p → g1 0 1 = nI l.length → g1 1 = g 1 → QuR N g1 l := by
    intro p hp ep g1 a1 a2 a3
    refine ⟨p, hp, a1, a2, by omega, fun i hi => ?_⟩
    rw [a3]
    have := h5 (i + 1) (by rw [List.length_cons]; omega)
    rw [show (x :: l).getD (i + 1) 0 = l.getD i 0 from rfl] at this
    rw [← this]
    congr 1
    rw [ep]
    split <;> split <;> split <;> omega
  unfold V_X5_removeOldest
  rw [h3, h2, ofN]
  refine ⟨fun c => absurd c (nI_nle (by omega) (by omega)), fun _ => ⟨fun c => absurd c (nI_pos (by omega)), fun _ => ⟨fun _ => ⟨vp_in_nI h1 (by omega), ?_⟩, fun c => absurd (nI_lt h1 (by omega)) c⟩⟩⟩
  intro x4 e4
  rw [nI_clamp (by omega), hx] at e4
  subst e4
  refine ⟨fun c g6 e6 g7 e7 => ?_, fun c g8 e8 g9 e9 => ?_⟩
  · subst e6; subst e7
    have hne : o + 1 ≠ N := fun z => c (by rw [nI_1, z])
    refine k _ (rest (o + 1) (by omega) (by rw [if_pos (by omega)]) _ ?_ ?_ rfl)
    · show nI o + 1 = _; exact nI_1 o
    · show g 0 1 - 1 = _
      rw [h3]; exact nI_pred _
  · subst e8; subst e9
    have he : o + 1 = N := by
      rw [nI_1] at c
      exact (nI_eq (by omega) (by omega)).mp c
    refine k _ (rest 0 (by omega) (by rw [if_neg (by omega)]) _ rfl ?_ rfl)
    show g 0 1 - 1 = _
    rw [h3]; exact nI_pred _
-- the heap's words
theorem v_hat {N a : Nat} {g : St} {post : Int32 → St → Prop} (ha : a < N) (hN2 : N < 2 ^ 31) (k : post (g 1 a) g) : V_X2_at N (nI a) g post := by
  unfold V_X2_at
  refine ⟨fun c => absurd c (nI_pos (by omega)), fun _ => ⟨fun c => absurd c (nI_ge ha hN2), fun _ => ⟨vp_in_nI ha hN2, ?_⟩⟩⟩
  rw [nI_clamp (by omega)]; exact k
theorem v_put {N a : Nat} {w : Int32} {g : St} {post : St → Prop} (ha : a < N) (hN2 : N < 2 ^ 31) (k : post (up g 1 a w)) : V_X2_put N (nI a) w g post := by
  unfold V_X2_put
  refine ⟨fun c => absurd c (nI_pos (by omega)), fun _ => ⟨fun c => absurd c (nI_ge ha hN2), fun _ => ⟨vp_in_nI ha hN2, ?_⟩⟩⟩
  rw [nI_clamp (by omega)]
  intro g3 e3
  subst e3; exact k
theorem v_tag {t : Nat} {h : Int} {post : Int32 → Prop} (ht : t < 16) (h1 : -134217728 ≤ h) (h2 : h < 134217728) (k : post (nI t)) : V_X10_tag (wd t h) post := by
  unfold V_X10_tag
  rw [w_tag ht h1 h2]; exact k
theorem v_held {t : Nat} {h : Int} {post : Int32 → Prop} (ht : t < 16) (h1 : -134217728 ≤ h) (h2 : h < 134217728) (k : post (iI h)) : V_X10_held (wd t h) post := by
  unfold V_X10_held
  rw [w_held ht h1 h2]; exact k
theorem v_of {t : Nat} {h : Int} {post : Int32 → Prop} (ht : t < 16) (k : post (wd t h)) : V_X10_of (nI t) (iI h) post := by
  unfold V_X10_of
  rw [w_of ht]; exact k
