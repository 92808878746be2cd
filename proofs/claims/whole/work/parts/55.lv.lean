-- ===== what was read keeps its form =====
theorem Inc_in {rc : Nat → Va × Va} {F : Va → Nat → Nat → Prop} (hF : ∀ v a b, F v a b → a ≤ b) : ∀ (l : List Nat) (lo hi : Nat), Inc rc F l lo hi → lo ≤ hi ∧ ∀ i ∈ l, lo ≤ i ∧ i < hi
  | [], lo, hi, h => ⟨Nat.le_of_eq h, fun i hi => by cases hi⟩
  | x :: l, lo, hi, h => by
    obtain ⟨a, b⟩ := Inc_in hF l (x + 1) hi h.2
    have := hF _ _ _ h.1
    refine ⟨by omega, fun i hi => ?_⟩
    rcases List.mem_cons.mp hi with e | e
    · subst e; omega
    · have := b i e; omega
theorem RdV_le {rc : Nat → Va × Va} {sy : Nat} : ∀ (d : Nat) (v : Va) (a b : Nat), RdV rc sy d v a b → a ≤ b
  | 0, v, a, b, h => Nat.le_of_eq h.2
  | d + 1, v, a, b, h => by
    rcases h with h | ⟨l, _, _, h⟩ | ⟨n, c, _, _, _, h, h2⟩
    · exact Nat.le_of_eq h.2
    · exact (Inc_in (RdV_le d) l a b h).1
    · have := RdV_le d _ _ _ h; omega
theorem Inc_congr {rc rc1 : Nat → Va × Va} {F F1 : Va → Nat → Nat → Prop} (hF : ∀ v a b, F v a b → a ≤ b) (hh : Nat) (ll : Nat) (hFF : ∀ v a b, ll ≤ a → b ≤ hh → F v a b → F1 v a b) : ∀ (l : List Nat) (lo hi : Nat), ll ≤ lo → hi ≤ hh → (∀ i ∈ l, (rc1 i).1 = (rc i).1) → Inc rc F l lo hi → Inc rc1 F1 l lo hi
  | [], lo, hi, _, _, _, h => h
  | i :: l, lo, hi, h0, h1, h2, h => by
    have hin := (Inc_in hF (i :: l) lo hi h).2 i List.mem_cons_self
    exact ⟨by rw [h2 i List.mem_cons_self]; exact hFF _ _ _ h0 (by omega) h.1, Inc_congr hF hh ll hFF l (i + 1) hi (by omega) h1 (fun x hx => h2 x (List.mem_cons_of_mem _ hx)) h.2⟩
theorem Lst_congr {rc rc1 : Nat → Va × Va} : ∀ (l : List Nat) (v : Va), (∀ i ∈ l, (rc1 i).2 = (rc i).2) → Lst rc v l → Lst rc1 v l
  | [], v, _, h => h
  | i :: l, v, h, h1 => ⟨h1.1, by rw [h i List.mem_cons_self]; exact Lst_congr l _ (fun x hx => h x (List.mem_cons_of_mem _ hx)) h1.2⟩
theorem RdV_congr {rc rc1 : Nat → Va × Va} {sy sy1 : Nat} (hs : sy ≤ sy1) : ∀ (d : Nat) (v : Va) (a b : Nat), (∀ i, a ≤ i → i < b → rc1 i = rc i) → RdV rc sy d v a b → RdV rc1 sy1 d v a b
  | 0, v, a, b, _, h => ⟨by
      have h1 := h.1
      rcases v with _ | v | v | v | v | v | v <;> simp [atm] at h1 ⊢ <;> omega, h.2⟩
  | d + 1, v, a, b, hc, h => by
    rcases h with h | ⟨l, h1, h2, h3⟩ | ⟨n, c, h1, h2, h3, h4, h5⟩
    · refine Or.inl ⟨?_, h.2⟩
      have h1 := h.1
      rcases v with _ | v | v | v | v | v | v <;> simp [atm] at h1 ⊢ <;> omega
    · have hin := (Inc_in (RdV_le d) l a b h3).2
      refine Or.inr (Or.inl ⟨l, h1, Lst_congr l v (fun i hi => by rw [hc i (hin i hi).1 (hin i hi).2]) h2, ?_⟩)
      exact Inc_congr (RdV_le d) b a (fun v x y hx hy hv => RdV_congr hs d v x y (fun i h6 h7 => hc i (by omega) (by omega)) hv) l a b (Nat.le_refl _) (Nat.le_refl _) (fun i hi => by rw [hc i (hin i hi).1 (hin i hi).2]) h3
    · have h6 := RdV_le d _ _ _ h4
      refine Or.inr (Or.inr ⟨n, c, h1, ?_, ?_, ?_, h5⟩)
      · rw [hc (n + 1) (by omega) (by omega)]; exact h2
      · rw [hc (n + 1) (by omega) (by omega)]
        exact ⟨h3.1, by rw [hc n h6 (by omega)]; exact h3.2⟩
      · rw [hc n h6 (by omega)]
        exact RdV_congr hs d _ _ _ (fun i h7 h8 => hc i h7 (by omega)) h4
theorem RdV_deep {rc : Nat → Va × Va} {sy : Nat} : ∀ (d : Nat) (v : Va) (a b : Nat), RdV rc sy d v a b → RdV rc sy (d + 1) v a b
  | 0, v, a, b, h => Or.inl h
  | d + 1, v, a, b, h => by
    rcases h with h | ⟨l, h1, h2, h3⟩ | ⟨n, c, h1, h2, h3, h4, h5⟩
    · exact Or.inl h
    · exact Or.inr (Or.inl ⟨l, h1, h2, Inc_congr (RdV_le d) b a (fun v x y _ _ hv => RdV_deep d v x y hv) l a b (Nat.le_refl _) (Nat.le_refl _) (fun _ _ => rfl) h3⟩)
    · exact Or.inr (Or.inr ⟨n, c, h1, h2, h3, RdV_deep d _ _ _ h4, h5⟩)
theorem Inc_snoc {rc : Nat → Va × Va} {sy d : Nat} : ∀ (l : List Nat) (lo m n : Nat), Inc rc (RdV rc sy d) l lo m → RdV rc sy d (rc n).1 m n → Inc rc (RdV rc sy d) (l ++ [n]) lo (n + 1)
  | [], lo, m, n, h, h2 => ⟨by rw [show lo = m from h]; exact h2, rfl⟩
  | i :: l, lo, m, n, h, h2 => ⟨h.1, Inc_snoc l (i + 1) m n h.2 h2⟩
theorem Inc_congr2 {rc rc1 : Nat → Va × Va} {sy sy1 d : Nat} (hs : sy ≤ sy1) : ∀ (l : List Nat) (lo hi : Nat), (∀ x, lo ≤ x → x < hi → x ∉ l → rc1 x = rc x) → (∀ i ∈ l, (rc1 i).1 = (rc i).1) → Inc rc (RdV rc sy d) l lo hi → Inc rc1 (RdV rc1 sy1 d) l lo hi
  | [], lo, hi, _, _, h => h
  | i :: l, lo, hi, h1, h2, h => by
    have hin := (Inc_in (RdV_le d) l (i + 1) hi h.2)
    have h0 := (Inc_in (RdV_le d) (i :: l) lo hi h).2 i List.mem_cons_self
    refine ⟨?_, Inc_congr2 hs l (i + 1) hi (fun x a b c => h1 x (by omega) b (fun z => ?_)) (fun x hx => h2 x (List.mem_cons_of_mem _ hx)) h.2⟩
    · rw [h2 i List.mem_cons_self]
      refine RdV_congr hs d _ _ _ (fun x a b => h1 x a (by omega) (fun z => ?_)) h.1
      rcases List.mem_cons.mp z with e | e
      · omega
      · have := hin.2 x e; omega
    · rcases List.mem_cons.mp z with e | e
      · omega
      · exact c e
theorem Inc_nodup {rc : Nat → Va × Va} {sy d : Nat} : ∀ (l : List Nat) (lo hi : Nat), Inc rc (RdV rc sy d) l lo hi → l.Nodup
  | [], _, _, _ => List.nodup_nil
  | i :: l, lo, hi, h => by
    have hin := (Inc_in (RdV_le d) l (i + 1) hi h.2).2
    exact List.nodup_cons.mpr ⟨fun z => by have := hin i z; omega, Inc_nodup l (i + 1) hi h.2⟩
theorem LvR_congr {rc rc1 : Nat → Va × Va} {sy sy1 fs : Nat} {o : Nat → Nat} (hs : sy ≤ sy1) : ∀ (lv : List (Bool × List Nat)) (hi : Nat), (∀ i, fs ≤ i → i < hi → rc1 i = rc i) → LvR rc sy fs o lv hi → LvR rc1 sy1 fs o lv hi ∧ fs ≤ hi
  | [], hi, _, h => ⟨h, by have h : fs = hi := h; omega⟩
  | (q, l) :: r, hi, hc, h => by
    obtain ⟨lo, h1, h2, h3, h4⟩ := h
    have hin := Inc_in (RdV_le _) l lo hi h2
    obtain ⟨h5, h6⟩ := LvR_congr hs r lo (fun i a b => hc i a (by omega)) h4
    refine ⟨⟨lo, Lst_congr l _ (fun i hi => by rw [hc i (by have := hin.2 i hi; omega) (hin.2 i hi).2]) h1, ?_, h3, h5⟩, by omega⟩
    exact Inc_congr2 hs l lo hi (fun x a b _ => hc x (by omega) b) (fun i hi => by rw [hc i (by have := hin.2 i hi; omega) (hin.2 i hi).2]) h2
theorem Lst_app {rc rc1 : Nat → Va × Va} {n j c : Nat} (hj : (rc1 j).2 = vrd n c) (hn : (rc1 n).2 = vnil) : ∀ (l : List Nat) (v : Va), (∀ i ∈ l, rc1 i = rc i) → Lst rc v (l ++ [j]) → Lst rc1 v (l ++ [j] ++ [n])
  | [], v, _, h => ⟨h.1, by rw [hj]; exact ⟨⟨c, rfl⟩, hn⟩⟩
  | i :: l, v, h, h1 => ⟨h1.1, by rw [h i List.mem_cons_self]; exact Lst_app hj hn l _ (fun x hx => h x (List.mem_cons_of_mem _ hx)) h1.2⟩
theorem Lst_snoc {rc : Nat → Va × Va} {o : Nat → Nat} {l : List Nat} {n : Nat} {v : Va} (h : Lst rc (hdv o l) l) (hn : n ∉ l) (hd : l.Nodup) : Lst (lnk (setC rc n (v, vnil)) l (vrd n (o n))) (hdv o (l ++ [n])) (l ++ [n]) := by
  rcases List.eq_nil_or_concat l with rfl | ⟨l, j, rfl⟩
  · exact ⟨⟨_, rfl⟩, by show (setC rc n (v, vnil) n).2 = vnil; rw [setE]⟩
  · rw [List.concat_eq_append] at *
    rw [lnk_last]
    have hjn : j ≠ n := fun e => hn (by rw [← e]; simp)
    have e1 : hdv o (l ++ [j] ++ [n]) = hdv o (l ++ [j]) := by cases l <;> rfl
    rw [e1]
    refine Lst_app (rc := rc) (c := o n) (by rw [setE]) (by rw [setN _ _ (fun e => hjn e.symm), setE]) l _ (fun i hi => ?_) h
    have a1 : i ≠ j := by
      rw [List.nodup_append] at hd
      exact fun e => hd.2.2 i hi j (by simp) e
    have a2 : i ≠ n := fun e => hn (by rw [← e]; simp [hi])
    rw [setN _ _ a1, setN _ _ a2]
theorem lnk_car (rc : Nat → Va × Va) (l : List Nat) (v : Va) (i : Nat) : (lnk rc l v i).1 = (rc i).1 := by
  rcases List.eq_nil_or_concat l with rfl | ⟨l, j, rfl⟩
  · rfl
  · rw [List.concat_eq_append, lnk_last]
    by_cases e : i = j
    · subst e; rw [setE]
    · rw [setN _ _ e]
theorem lnk_out {rc : Nat → Va × Va} {l : List Nat} {v : Va} {i : Nat} (h : i ∉ l) : lnk rc l v i = rc i := by
  rcases List.eq_nil_or_concat l with rfl | ⟨l, j, rfl⟩
  · rfl
  · rw [List.concat_eq_append] at *
    rw [lnk_last, setN _ _ (fun e => h (by rw [e]; simp))]
theorem addV_R {sy fs : Nat} {o : Nat → Nat} : ∀ (lv : List (Bool × List Nat)) (rc : Nat → Va × Va) (rn : Nat) (v : Va) (lo : Nat), LvR rc sy fs o lv lo → RdV rc sy (12 - lv.length) v lo rn → lv.length ≤ 12 → (∃ q l, (q, l) ∈ lv ∧ q = false) → LvR (addV o lv rc rn v).1 sy fs o (addV o lv rc rn v).2.2 (addV o lv rc rn v).2.1
  | [], rc, rn, v, lo, _, _, _, h => by
    obtain ⟨q, l, h, -⟩ := h
    cases h
  | (true, l) :: r, rc, rn, v, lo, h1, h2, h3, h4 => by
    have hl : r.length + 1 ≤ 12 := h3
    obtain ⟨lo1, c1, c2, c3, c4⟩ := h1
    have e := c3 rfl
    subst e
    have hlo : lo1 = lo := c2
    subst hlo
    have hrn := RdV_le _ _ _ _ h2
    have hcong : ∀ i, i < rn → setC (setC rc rn (v, vnil)) (rn + 1) (vsym 2, vrd rn (o rn)) i = rc i := fun i hi => by rw [setN _ _ (by omega), setN _ _ (by omega)]
    obtain ⟨d1, d2⟩ := LvR_congr (rc1 := setC (setC rc rn (v, vnil)) (rn + 1) (vsym 2, vrd rn (o rn))) (Nat.le_refl sy) r lo1 (fun i _ b => hcong i (by omega)) c4
    refine addV_R r _ (rn + 2) _ lo1 d1 ?_ (by omega) ?_
    · rw [show 12 - r.length = (11 - r.length) + 1 by omega]
      have h2 : RdV rc sy (12 - (r.length + 1)) v lo1 rn := h2
      rw [show 12 - (r.length + 1) = 11 - r.length by omega] at h2
      refine Or.inr (Or.inr ⟨rn, _, rfl, by rw [setE], ?_, ?_, rfl⟩)
      · rw [setE]
        exact ⟨⟨_, rfl⟩, by rw [setN _ _ (by omega), setE]; exact rfl⟩
      · rw [setN _ _ (by omega), setE]
        exact RdV_congr (Nat.le_refl sy) _ _ _ _ (fun i _ b => hcong i b) h2
    · obtain ⟨q, l, h, e⟩ := h4
      rcases List.mem_cons.mp h with h | h
      · cases h; cases e
      · exact ⟨q, l, h, e⟩
  | (false, l) :: r, rc, rn, v, lo, h1, h2, h3, h4 => by
    have hl : r.length + 1 ≤ 12 := h3
    obtain ⟨lo1, c1, c2, c3, c4⟩ := h1
    have hin := Inc_in (RdV_le _) l lo1 lo c2
    have hrn := RdV_le _ _ _ _ h2
    have h2 : RdV rc sy (12 - (r.length + 1)) v lo rn := h2
    rw [show 12 - (r.length + 1) = 11 - r.length by omega] at h2
    have hnl : rn ∉ l := fun z => by have := hin.2 rn z; omega
    have hcong : ∀ i, i < rn → i ∉ l → lnk (setC rc rn (v, vnil)) l (vrd rn (o rn)) i = rc i := fun i hi hn => by rw [lnk_out hn, setN _ _ (by omega)]
    have hcar : ∀ i, i < rn → (lnk (setC rc rn (v, vnil)) l (vrd rn (o rn)) i).1 = (rc i).1 := fun i hi => by rw [lnk_car, setN _ _ (by omega)]
    obtain ⟨d1, d2⟩ := LvR_congr (rc1 := lnk (setC rc rn (v, vnil)) l (vrd rn (o rn))) (Nat.le_refl sy) r lo1 (fun i _ b => hcong i (by omega) (fun z => by have := hin.2 i z; omega)) c4
    show LvR (lnk (setC rc rn (v, vnil)) l (vrd rn (o rn))) sy fs o ((false, l ++ [rn]) :: r) (rn + 1)
    refine ⟨lo1, Lst_snoc c1 hnl (Inc_nodup l _ _ c2), ?_, (fun c => (by cases c)), d1⟩
    refine Inc_snoc l lo1 lo rn (Inc_congr2 (Nat.le_refl sy) l lo1 lo (fun x _ b c => hcong x (by omega) c) (fun i hi => hcar i (by have := hin.2 i hi; omega)) c2) ?_
    rw [lnk_car, setE]
    have : RdV rc sy (11 - r.length) v lo rn := h2
    refine RdV_congr (Nat.le_refl sy) _ _ _ _ (fun i a b => hcong i b (fun z => by have := hin.2 i z; omega)) this
/-- old cells stay; what is new holds no made object -/
theorem addV_old {o : Nat → Nat} {P : Va → Prop} (hP0 : P vnil) (hP2 : P (vsym 2)) (hPr : ∀ i, i < 300 → P (vrd i (o i))) (m : Nat) : ∀ (lv : List (Bool × List Nat)) (rc : Nat → Va × Va) (rn fs : Nat) (v : Va), fs ≤ rn → rn + nqs lv ≤ 200 → (∀ q l, (q, l) ∈ lv → ∀ x ∈ l, fs ≤ x ∧ x < rn) → P v → (∀ i, m ≤ i → i < rn → P (rc i).1 ∧ P (rc i).2) →
    (∀ i, i < fs → (addV o lv rc rn v).1 i = rc i) ∧ (∀ i, m ≤ i → i < (addV o lv rc rn v).2.1 → P ((addV o lv rc rn v).1 i).1 ∧ P ((addV o lv rc rn v).1 i).2) ∧ rn ≤ (addV o lv rc rn v).2.1 ∧ (addV o lv rc rn v).2.1 + nqs (addV o lv rc rn v).2.2 ≤ rn + nqs lv + 1 ∧ (addV o lv rc rn v).2.2.length ≤ lv.length ∧ ∀ q l, (q, l) ∈ (addV o lv rc rn v).2.2 → ∀ x ∈ l, fs ≤ x ∧ x < (addV o lv rc rn v).2.1
  | [], rc, rn, fs, v, h1, h2, h3, h4, h5 => ⟨fun _ _ => rfl, h5, Nat.le_refl _, by show rn + 0 ≤ rn + 0 + 1; omega, Nat.le_refl _, fun q l h => by cases h⟩
  | (true, l) :: r, rc, rn, fs, v, h1, h2, h3, h4, h5 => by
    have hnq : nqs ((true, l) :: r) = 2 + nqs r := rfl
    rw [hnq] at h2 ⊢
    obtain ⟨a1, a2, a3, a4, a5, a6⟩ := addV_old hP0 hP2 hPr m r (setC (setC rc rn (v, vnil)) (rn + 1) (vsym 2, vrd rn (o rn))) (rn + 2) fs (vrd (rn + 1) (o (rn + 1))) (by omega) (by omega) (fun q l h x hx => by have := h3 q l (List.mem_cons_of_mem _ h) x hx; omega) (hPr _ (by omega)) (fun i hm hi => by
      by_cases e : i = rn + 1
      · subst e; rw [setE]; exact ⟨hP2, hPr _ (by omega)⟩
      · rw [setN _ _ e]
        by_cases e2 : i = rn
        · subst e2; rw [setE]; exact ⟨h4, hP0⟩
        · rw [setN _ _ e2]; exact h5 i hm (by omega))
    refine ⟨fun i hi => ?_, a2, ?_, ?_, ?_, a6⟩
    · show (addV o r _ (rn + 2) _).1 i = _
      rw [a1 i hi, setN _ _ (by omega), setN _ _ (by omega)]
    · show rn ≤ (addV o r _ (rn + 2) _).2.1
      omega
    · show (addV o r _ (rn + 2) _).2.1 + nqs (addV o r _ (rn + 2) _).2.2 ≤ _
      omega
    · show (addV o r _ (rn + 2) _).2.2.length ≤ r.length + 1
      omega
  | (false, l) :: r, rc, rn, fs, v, h1, h2, h3, h4, h5 => by
    have hnq : nqs ((false, l) :: r) = 1 + nqs r := rfl
    rw [hnq] at h2 ⊢
    have hin := h3 false l List.mem_cons_self
    refine ⟨fun i hi => ?_, fun i hm hi => ?_, Nat.le_succ _, ?_, Nat.le_refl _, fun q l2 h x hx => ?_⟩
    · show lnk (setC rc rn (v, vnil)) l (vrd rn (o rn)) i = _
      rw [lnk_out (fun z => by have := hin i z; omega), setN _ _ (by omega)]
    · have hi : i < rn + 1 := hi
      show P (lnk (setC rc rn (v, vnil)) l (vrd rn (o rn)) i).1 ∧ P (lnk (setC rc rn (v, vnil)) l (vrd rn (o rn)) i).2
      have hb : P (setC rc rn (v, vnil) i).1 ∧ P (setC rc rn (v, vnil) i).2 := by
        by_cases e : i = rn
        · subst e; rw [setE]; exact ⟨h4, hP0⟩
        · rw [setN _ _ e]; exact h5 i hm (by omega)
      rw [lnk_car]
      refine ⟨hb.1, ?_⟩
      rcases List.eq_nil_or_concat l with rfl | ⟨l, j, rfl⟩
      · exact hb.2
      · rw [List.concat_eq_append, lnk_last]
        by_cases e : i = j
        · subst e; rw [setE]; exact hPr rn (by omega)
        · rw [setN _ _ e]; exact hb.2
    · show rn + 1 + nqs ((false, l ++ [rn]) :: r) ≤ _
      show rn + 1 + (1 + nqs r) ≤ _
      omega
    · have h : (q, l2) ∈ (false, l ++ [rn]) :: r := h
      show fs ≤ x ∧ x < rn + 1
      rcases List.mem_cons.mp h with h | h
      · cases h
        rcases List.mem_append.mp hx with hx | hx
        · have := hin x hx; omega
        · rw [List.mem_singleton] at hx; omega
      · have := h3 q l2 (List.mem_cons_of_mem _ h) x hx; omega

theorem addV_O {o : Nat → Nat} {fs rn : Nat} {lv : List (Bool × List Nat)} {rc : Nat → Va × Va} {v : Va} (h1 : fs ≤ rn) (h2 : rn + nqs lv ≤ 200) (h3 : ∀ q l, (q, l) ∈ lv → ∀ x ∈ l, fs ≤ x ∧ x < rn) (h4 : ∀ x c, v = vrd x c → c = o x) (h5 : NewO rc fs rn o) : NewO (addV o lv rc rn v).1 fs (addV o lv rc rn v).2.1 o :=
  (addV_old (o := o) (P := fun v => ∀ x c, v = vrd x c → c = o x) (fun _ _ h => by cases h) (fun _ _ h => by cases h) (fun i _ x c h => by cases h; rfl) fs lv rc rn fs v h1 h2 h3 h4 h5).2.1
theorem LvR_in {rc : Nat → Va × Va} {sy fs : Nat} {o : Nat → Nat} : ∀ (lv : List (Bool × List Nat)) (hi : Nat), LvR rc sy fs o lv hi → fs ≤ hi ∧ ∀ q l, (q, l) ∈ lv → ∀ x ∈ l, fs ≤ x ∧ x < hi
  | [], hi, h => ⟨Nat.le_of_eq h, fun q l h => by cases h⟩
  | (q, l) :: r, hi, h => by
    obtain ⟨lo, h1, h2, h3, h4⟩ := h
    have hin := Inc_in (RdV_le _) l lo hi h2
    obtain ⟨h5, h6⟩ := LvR_in r lo h4
    refine ⟨by omega, fun q1 l1 hm x hx => ?_⟩
    rcases List.mem_cons.mp hm with e | e
    · cases e; have := hin.2 x hx; omega
    · have := h6 q1 l1 e x hx; omega
