section GC3
variable {N z tg b u : Nat} {hp : Nat → Option Ob} {φ ent : Nat → Nat} {P : Nat → Prop}
theorem psi_app {q r : List Nat} {s : Nat} (h : s ∈ q) : psi tg hp (q ++ r) s = psi tg hp q s := by unfold psi; rw [pos_app _ h]
theorem app_tr {q q1 q2 : List Nat} (h1 : ∃ r, q1 = q ++ r) (h2 : ∃ r, q2 = q1 ++ r) : ∃ r, q2 = q ++ r := by
  obtain ⟨r, rfl⟩ := h1
  obtain ⟨r2, rfl⟩ := h2
  exact ⟨r ++ r2, by rw [List.append_assoc]⟩
/-- a row of roots -/
theorem c_row {xs : Nat → Gw} {len L : Nat} {r0 : Nat → Int32} {h0 : St} {q0 : List Nat} {post : St → Prop} (hG : GSt z tg b u hp φ ent P) (hN : N = 2048 + 2 * z) (hlen : len ≤ L) (hL : L < 2 ^ 31) (hok : ∀ t, t < len → gok hp (xs t)) (hP : ∀ t, t < len → ∀ s, gref (xs t) = some s → P s)
    (kk : ∀ h1 q1, MG z tg hp φ ent P h1 q1 0 → (∃ r, q1 = q0 ++ r) → (∀ t, t < len → (∀ s, gref (xs t) = some s → s ∈ q1) ∧ h1 2 t = gw (psi tg hp q1) (xs t)) → (∀ t, len ≤ t → h1 2 t = r0 t) → (∀ c, c ≠ 0 → c ≠ 1 → c ≠ 2 → h1 c = h0 c) → (∀ i, i ≠ 7 → h1 0 i = h0 0 i) → (∀ a, a < 2048 → h1 1 a = h0 1 a) → post h1) :
    ∀ (n i : Nat) (h : St) (q : List Nat), len - i + 300 < n → i ≤ len → MG z tg hp φ ent P h q 0 → (∃ r, q = q0 ++ r) → (∀ t, t < i → (∀ s, gref (xs t) = some s → s ∈ q) ∧ h 2 t = gw (psi tg hp q) (xs t)) → (∀ t, i ≤ t → t < len → h 2 t = gw φ (xs t)) → (∀ t, len ≤ t → h 2 t = r0 t) → (∀ c, c ≠ 0 → c ≠ 1 → c ≠ 2 → h c = h0 c) → (∀ i, i ≠ 7 → h 0 i = h0 0 i) → (∀ a, a < 2048 → h 1 a = h0 1 a) → V_X2_moveRow_2 N L post n (nI len) (nI i) h
  | 0, i, h, q => fun h1 => absurd h1 (by omega)
  | n + 1, i, h, q => by
    intro h1 h2 hM hq hd hu hr hc hs ha
    unfold V_X2_moveRow_2
    refine ⟨fun c => ?_, fun c => ?_⟩
    · have hi : i = len := by have := (nI_leI (a := len) (b := i) (by omega) (by omega)).mp c; omega
      subst hi
      exact kk h q hM hq hd hr hc hs ha
    · have hi : i < len := by
        rcases Nat.lt_or_ge i len with z | z
        · exact z
        · exact absurd ((nI_leI (a := len) (b := i) (by omega) (by omega)).mpr z) c
      rw [ofN]
      refine ⟨fun c2 => absurd c2 (nI_ge (by omega) hL), fun _ => ⟨vp_in_nI (by omega) hL, ?_⟩⟩
      rw [nI_clamp (by omega), hu i (Nat.le_refl _) hi]
      refine c_move hG hM (Nat.zero_le _) hN (by omega) (hok i hi) (hP i hi) (fun h3 q1 hM1 hq1 hin hF => eqI ⟨vp_in_nI (by omega) hL, eqI ?_⟩)
      rw [nI_1]
      have e2 : ∀ t, (up (mx h3 2 (h 2)) 2 i (gw (psi tg hp q1) (xs i))) 2 t = if t = i then gw (psi tg hp q1) (xs i) else h 2 t := by
        intro t
        rw [upA]
        by_cases e : t = i
        · subst e; rw [updE, if_pos rfl]
        · rw [updN _ _ e, if_neg e]; rfl
      obtain ⟨r1, rfl⟩ := id hq1
      refine eqI (c_row hG hN hlen hL hok hP kk n (i + 1) (up (mx h3 2 (h 2)) 2 i (gw (psi tg hp (q ++ r1)) (xs i))) _ (by omega) hi hM1 (app_tr hq ⟨r1, rfl⟩) (fun t ht => ?_) (fun t h5 h6 => ?_) (fun t h5 => ?_) (fun c h5 h6 h7 => ?_) (fun c h5 => (hF.2.1 c h5).trans (hs c h5)) (fun a h5 => (hF.2.2 a h5).trans (ha a h5)))
      · rw [e2]
        by_cases e : t = i
        · subst e; rw [if_pos rfl]; exact ⟨hin, rfl⟩
        · rw [if_neg e]
          obtain ⟨d1, d2⟩ := hd t (by omega)
          refine ⟨fun s hs => by simp [d1 s hs], ?_⟩
          rw [d2]
          exact gw_ext (fun s hs => (psi_app (d1 s hs)).symm)
      · rw [e2, if_neg (by omega)]; exact hu t (by omega) h6
      · rw [e2, if_neg (by omega)]; exact hr t h5
      · rw [upB _ _ _ h7]
        have : mx h3 2 (h 2) c = h3 c := by
          show cond (Nat.beq c 2) (h 2) (h3 c) = h3 c
          cases e : Nat.beq c 2 with
          | true => exact absurd (Nat.eq_of_beq_eq_true e) h7
          | false => rfl
        rw [this, hF.1 c h5 h6]; exact hc c h5 h6 h7
/-- a word is put below the halves -/
theorem MG_put {h : St} {q : List Nat} {k a : Nat} {w : Int32} (hG : GSt z tg b u hp φ ent P) (hM : MG z tg hp φ ent P h q k) (ha : a < 2048) : MG z tg hp φ ent P (up h 1 a w) q k := by
  obtain ⟨g1, g2, g3, g4, g5, g6, g7, g8, g9, g10⟩ := hG
  obtain ⟨m1, m2, m3, m4, m5, m6, m7, m8⟩ := hM
  have hx : ∀ x, 2048 ≤ x → (up h 1 a w) 1 x = h 1 x := fun x hx => by rw [upA, updN _ _ (by omega)]
  have hps : ∀ s, 2048 ≤ psi tg hp q s := fun s => by unfold psi; omega
  refine ⟨m1, m2, m3, m4, m5, fun s o ho hn i hi => ?_, fun s hs => ?_, fun s o hs ho i hi => ?_⟩
  · have := g6 s o ho
    rw [hx _ (by omega)]; exact m6 s o ho hn i hi
  · obtain ⟨o, ho⟩ := Option.ne_none_iff_exists'.mp (m5 s hs).2.2
    have := g6 s o ho
    rw [hx _ (by omega)]; exact m7 s hs
  · have := hps s
    rw [hx _ (by omega)]; exact m8 s o hs ho i hi
/-- the words of read cells that may have been replaced -/
theorem c_rng {xs : Nat → Gw} {lo hi : Nat} {h0 : St} {q0 : List Nat} {post : St → Prop} (hG : GSt z tg b u hp φ ent P) (hN : N = 2048 + 2 * z) (hhi : hi ≤ 2048) (hok : ∀ t, lo ≤ t → t < hi → gok hp (xs t)) (hP : ∀ t, lo ≤ t → t < hi → ∀ s, gref (xs t) = some s → P s)
    (kk : ∀ h1 q1, MG z tg hp φ ent P h1 q1 0 → (∃ r, q1 = q0 ++ r) → (∀ t, lo ≤ t → t < hi → (∀ s, gref (xs t) = some s → s ∈ q1) ∧ h1 1 t = gw (psi tg hp q1) (xs t)) → (∀ t, t < 2048 → ¬ (lo ≤ t ∧ t < hi) → h1 1 t = h0 1 t) → (∀ c, c ≠ 0 → c ≠ 1 → h1 c = h0 c) → (∀ i, i ≠ 7 → h1 0 i = h0 0 i) → post h1) :
    ∀ (n a : Nat) (h : St) (q : List Nat), hi - a + 300 < n → lo ≤ a → a ≤ 2048 → (a ≤ hi ∨ hi ≤ lo) → MG z tg hp φ ent P h q 0 → (∃ r, q = q0 ++ r) → (∀ t, lo ≤ t → t < a → t < hi → (∀ s, gref (xs t) = some s → s ∈ q) ∧ h 1 t = gw (psi tg hp q) (xs t)) → (∀ t, a ≤ t → t < hi → h 1 t = gw φ (xs t)) → (∀ t, t < 2048 → ¬ (lo ≤ t ∧ t < hi) → h 1 t = h0 1 t) → (∀ c, c ≠ 0 → c ≠ 1 → h c = h0 c) → (∀ i, i ≠ 7 → h 0 i = h0 0 i) → V_X2_moveAt_2 N post n (nI hi) (nI a) h
  | 0, a, h, q => fun h1 => absurd h1 (by omega)
  | n + 1, a, h, q => by
    intro h1 h2 h2b h2c hM hq hd hu hr hc hs
    have hz : z ≤ 167 := hG.2.1
    unfold V_X2_moveAt_2
    refine ⟨fun c => ?_, fun c => ?_⟩
    · have hi2 : hi ≤ a := (nI_leI (a := hi) (b := a) (by omega) (by omega)).mp c
      exact kk h q hM hq (fun t h5 h6 => hd t h5 (by omega) h6) hr hc hs
    · have hlt : a < hi := by
        rcases Nat.lt_or_ge a hi with z | z
        · exact z
        · exact absurd ((nI_leI (a := hi) (b := a) (by omega) (by omega)).mpr z) c
      refine v_hat (by omega) (by omega) ?_
      rw [hu a (Nat.le_refl _) hlt]
      refine c_move hG hM (Nat.zero_le _) hN (by omega) (hok a h2 hlt) (hP a h2 hlt) (fun h3 q1 hM1 hq1 hin hF => v_put (by omega) (by omega) (eqI ?_))
      rw [nI_1]
      have e2 : ∀ t, (up h3 1 a (gw (psi tg hp q1) (xs a))) 1 t = if t = a then gw (psi tg hp q1) (xs a) else h3 1 t := by
        intro t
        rw [upA]
        by_cases e : t = a
        · subst e; rw [updE, if_pos rfl]
        · rw [updN _ _ e, if_neg e]
      obtain ⟨r1, rfl⟩ := id hq1
      refine c_rng hG hN hhi hok hP kk n (a + 1) _ _ (by omega) (by omega) (by omega) (Or.inl hlt) (MG_put hG hM1 (by omega)) (app_tr hq ⟨r1, rfl⟩) (fun t h4 h5 h6 => ?_) (fun t h5 h6 => ?_) (fun t h5 h6 => ?_) (fun c h5 h6 => ?_) (fun c h5 => (hF.2.1 c h5).trans (hs c h5))
      · rw [e2]
        by_cases e : t = a
        · subst e; rw [if_pos rfl]; exact ⟨hin, rfl⟩
        · rw [if_neg e, hF.2.2 t (by omega)]
          obtain ⟨d1, d2⟩ := hd t h4 (by omega) h6
          refine ⟨fun s hs => by simp [d1 s hs], ?_⟩
          rw [d2]
          exact gw_ext (fun s hs => (psi_app (d1 s hs)).symm)
      · rw [e2, if_neg (by omega), hF.2.2 t (by omega)]; exact hu t (by omega) h6
      · rw [e2, if_neg (by omega), hF.2.2 t h5]; exact hr t h5 h6
      · rw [upB _ _ _ h6, hF.1 c h5 h6]; exact hc c h5 h6
theorem pos_at : ∀ (q : List Nat) (i : Nat), q.Nodup → i < lenQ hp q → ∃ s, s ∈ q ∧ ∃ j, j < olo hp s ∧ pos hp q s + j = i
  | [], i, _, h => absurd h (Nat.not_lt_zero _)
  | t :: q, i, hd, h => by
    rw [List.nodup_cons] at hd
    have h : i < olo hp t + lenQ hp q := h
    by_cases e : i < olo hp t
    · exact ⟨t, by simp, i, e, by show (if t = t then 0 else _) + i = i; rw [if_pos rfl]; omega⟩
    · obtain ⟨s, hs, j, hj, hp2⟩ := pos_at q (i - olo hp t) hd.2 (by omega)
      refine ⟨s, by simp [hs], j, hj, ?_⟩
      show (if t = s then 0 else olo hp t + pos hp q s) + j = i
      rw [if_neg (fun e : t = s => hd.1 (by rw [e]; exact hs))]
      omega
/-- what was moved is looked through -/
theorem c_scan {h0 : St} {q0 : List Nat} {post : St → Prop} (hG : GSt z tg b u hp φ ent P) (hN : N = 2048 + 2 * z)
    (kk : ∀ h1 q1, MG z tg hp φ ent P h1 q1 (lenQ hp q1) → (∃ r, q1 = q0 ++ r) → GFr h0 h1 → ∀ n, V_X2_endMove_54 N post n h1) :
    ∀ (n i : Nat) (h : St) (q : List Nat), 500 - i + 300 < n → i ≤ lenQ hp q → MG z tg hp φ ent P h q i → (∃ r, q = q0 ++ r) → GFr h0 h → V_X2_endMove_14 N post n (nI i) h
  | 0, i, h, q => fun h1 => absurd h1 (by omega)
  | n + 1, i, h, q => by
    intro h1 h2 hM hq hF0
    obtain ⟨m1, m2, m3, m4, m5, m6, m7, m8⟩ := id hM
    have hlq : lenQ hp q ≤ u := by rw [← hG.2.2.2.1]; exact lenQ_le q hp m4 (fun s hs => (m5 s hs).1)
    obtain ⟨g1, g2, g3, g4, g5, g6, g7, g8, g9, g10⟩ := id hG
    have done : lenQ hp q ≤ i → V_X2_endMove_54 N post n h := fun c => by
      have : i = lenQ hp q := by omega
      subst this
      exact kk h q hM hq hF0 n
    unfold V_X2_endMove_14
    rw [m3, m1]
    refine ⟨fun c => done ((nI_leI (by omega) (by omega)).mp c), fun c => ⟨fun c2 => done (by have := (nI_leI (a := z) (b := i) (by omega) (by omega)).mp c2; omega), fun _ => ?_⟩⟩
    have hlt : i < lenQ hp q := by
      rcases Nat.lt_or_ge i (lenQ hp q) with z | z
      · exact z
      · exact absurd ((nI_leI (by omega) (by omega)).mpr z) c
    rw [m2, nI_add, nI_1]
    unfold V_X2_moveAt
    obtain ⟨s, hs, j, hj, hpj⟩ := pos_at (hp := hp) q i m4 hlt
    obtain ⟨o, ho⟩ := Option.ne_none_iff_exists'.mp (m5 s hs).2.2
    rw [olo_some ho] at hj
    have hw : h 1 (tg + i) = gw φ ((ogs ent o).getD j none) := by
      have := (m8 s o hs ho j hj).2 (by omega)
      rw [show psi tg hp q s + j = tg + i by unfold psi; omega] at this
      exact this
    obtain ⟨n, rfl⟩ : ∃ n', n = n' + 2 := ⟨n - 2, by omega⟩
    unfold V_X2_moveAt_2
    refine ⟨fun c => absurd ((nI_leI (a := tg + i + 1) (b := tg + i) (by omega) (by omega)).mp c) (by omega), fun _ => v_hat (by omega) (by omega) ?_⟩
    rw [hw]
    have hym := gok_mem (g8 s o ho) hj
    refine c_move hG hM h2 hN (by omega) hym.1 (fun t ht => g9 s o (m5 s hs).2.1 ho _ hym.2 t ht) (fun h3 q1 hM1 hq1 hin hF => v_put (by omega) (by omega) (eqI ?_))
    rw [nI_1]
    unfold V_X2_moveAt_2
    refine ⟨fun _ => eqI ?_, fun c => absurd (by rw [nI_1]; exact Int32.le_refl _) c⟩
    obtain ⟨r1, rfl⟩ := id hq1
    obtain ⟨a1, a2, a3, a4, a5, a6, a7, a8⟩ := hM1
    have hle2 : lenQ hp q ≤ lenQ hp (q ++ r1) := by rw [lenQ_app]; omega
    have hlq2 : lenQ hp (q ++ r1) ≤ u := by rw [← g4]; exact lenQ_le _ hp a4 (fun s hs => (a5 s hs).1)
    have e2 : ∀ x, x ≠ tg + i → (up h3 1 (tg + i) (gw (psi tg hp (q ++ r1)) ((ogs ent o).getD j none))) 1 x = h3 1 x := fun x hx => by rw [upA, updN _ _ hx]
    refine c_scan hG hN kk (n + 2) (i + 1) _ (q ++ r1) (by omega) (by omega) ⟨a1, a2, a3, a4, a5, fun s1 o1 ho1 hn1 x hx => ?_, fun s1 hs1 => ?_, fun s1 o1 hs1 ho1 x hx => ?_⟩ (app_tr hq ⟨r1, rfl⟩) ⟨fun c h5 h6 => ?_, fun c h5 => (hF.2.1 c h5).trans (hF0.2.1 c h5), fun a ha => ?_⟩
    · have := g6 s1 o1 ho1
      rw [e2 _ (by omega)]; exact a6 s1 o1 ho1 hn1 x hx
    · obtain ⟨o1, ho1⟩ := Option.ne_none_iff_exists'.mp (a5 s1 hs1).2.2
      have := g6 s1 o1 ho1
      have := olen_pos o1
      rw [e2 _ (by omega)]; exact a7 s1 hs1
    · by_cases e : s1 = s ∧ x = j
      · obtain ⟨rfl, rfl⟩ := e
        rw [ho] at ho1
        cases ho1
        have hpp : pos hp (q ++ r1) s1 = pos hp q s1 := pos_app _ hs
        refine ⟨fun _ => ⟨hin, ?_⟩, fun c => absurd c (by omega)⟩
        rw [show psi tg hp (q ++ r1) s1 + x = tg + i by unfold psi; omega, upA, updE]
      · have hne : pos hp (q ++ r1) s1 + x ≠ i := by
          intro hc
          have hsm : s ∈ q ++ r1 := by simp [hs]
          have hpp : pos hp (q ++ r1) s = pos hp q s := pos_app _ hs
          by_cases es : s1 = s
          · subst es; exact e ⟨rfl, by omega⟩
          · have := pos_dis (hp := hp) hs1 hsm es
            rw [olo_some ho1, olo_some ho] at this
            omega
        rw [e2 _ (by unfold psi; omega)]
        obtain ⟨b1, b2⟩ := a8 s1 o1 hs1 ho1 x hx
        exact ⟨fun c => b1 (by omega), fun c => b2 (by omega)⟩
    · rw [upB _ _ _ h6, hF.1 c h5 h6]; exact hF0.1 c h5 h6
    · rw [e2 _ (by omega), hF.2.2 a ha]; exact hF0.2.2 a ha
end GC3
