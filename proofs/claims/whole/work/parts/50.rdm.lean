-- ===== the same in the reference =====
/-- a state of the reference after reading: only these change -/
def RF (g a : St) : Prop := (∀ b, b ≠ 0 → b ≠ 6 → b ≠ 7 → b ≠ 13 → b ≠ 14 → a b = g b) ∧ ∀ i, i ≠ 3 → i ≠ 7 → a 0 i = g 0 i
theorem RF.rfl {g : St} : RF g g := ⟨fun _ _ _ _ _ _ => Eq.refl _, fun _ _ _ => Eq.refl _⟩
theorem RF.trans {g a b : St} (h : RF g a) (h2 : RF a b) : RF g b := ⟨fun x a1 a2 a3 a4 a5 => (h2.1 x a1 a2 a3 a4 a5).trans (h.1 x a1 a2 a3 a4 a5), fun i a1 a2 => (h2.2 i a1 a2).trans (h.2 i a1 a2)⟩
def rowsM (g : St) (rc : Nat → Va × Va) (rn : Nat) : Prop := ∀ i, i < rn → g 6 i = enc (rc i).1 ∧ g 7 i = enc (rc i).2
def clM (g : St) (rn : Nat) (x y : Int32) : St := us (up (up g 6 rn x) 7 rn y) 3 (nI (rn + 1))
theorem clM_RF (g : St) (rn : Nat) (x y : Int32) : RF g (clM g rn x y) := by
  refine ⟨fun b h0 h6 h7 _ _ => ?_, fun i h3 _ => ?_⟩
  · cases b with
    | zero => exact absurd rfl h0
    | succ b =>
      show up (up g 6 rn x) 7 rn y (b + 1) = _
      rw [upB _ _ _ h7, upB _ _ _ h6]
  · show us _ 3 _ 0 i = _
    rw [us0, if_neg h3]; rfl
theorem us7_RF (g : St) (x : Int32) : RF g (us g 7 x) := by
  refine ⟨fun b h0 _ _ _ _ => ?_, fun i _ h7 => ?_⟩
  · cases b with
    | zero => exact absurd rfl h0
    | succ b => rfl
  · rw [us0, if_neg h7]
theorem r_cell {rn : Nat} {v w : Va} {o : Nat} {g : St} {k : StL} {post : Int32 → St → StL → Prop} (hr : g 0 3 = nI rn) (hn : rn < 1100) (ho : o < 1024) (kk : post (enc (vrd rn o)) (clM g rn (enc v) (enc w)) k) : V_X12_cell (enc v) (enc w) g k post := by
  unfold V_X12_cell
  rw [hr, nI_clamp (by omega)]
  refine ⟨vp_in_nI hn (by decide), eqI ?_⟩
  have e1 : (up g 6 rn (enc v)) 0 3 = nI rn := hr
  rw [e1, nI_clamp (by omega)]
  refine ⟨vp_in_nI hn (by decide), eqI (eqI ?_)⟩
  have e2 : (up (up g 6 rn (enc v)) 7 rn (enc w)) 0 3 = nI rn := hr
  rw [e2, nI_1]
  have e3 : (us (up (up g 6 rn (enc v)) 7 rn (enc w)) 3 (nI (rn + 1))) 0 3 - 1 = nI rn := by
    show nI (rn + 1) - 1 = _
    exact nI_pred _
  rw [e3, show (4 : Int32) = nI 4 from rfl]
  refine r_code (v := vrd rn o) ⟨hn, ho⟩ rfl rfl ?_
  exact kk
theorem rowsM.add {g : St} {rc : Nat → Va × Va} {rn : Nat} (h : rowsM g rc rn) (v w : Va) : rowsM (clM g rn (enc v) (enc w)) (setC rc rn (v, w)) (rn + 1) := by
  intro i hi
  show upd (g 6) rn _ i = _ ∧ upd (g 7) rn _ i = _
  by_cases e : i = rn
  · subst e
    rw [updE, updE, setE]
    exact ⟨rfl, rfl⟩
  · rw [updN _ _ e, updN _ _ e, setN _ _ e]
    exact h i (by omega)
theorem LvM_upd {g12 g13 g14 : Nat → Int32} {o : Nat → Nat} {x y : Int32} : ∀ (r : List (Bool × List Nat)) (t : Nat), r.length ≤ t → LvM g12 g13 g14 o r → LvM g12 (upd g13 t x) (upd g14 t y) o r
  | [], t, _, _ => trivial
  | (q, l) :: r, t, ht, h => by
    have hl : r.length + 1 ≤ t := ht
    obtain ⟨a, b, c, d⟩ := h
    exact ⟨a, by rw [updN _ _ (by omega)]; exact b, fun hl => by rw [updN _ _ (by omega)]; exact c hl, LvM_upd r t (by omega) d⟩
theorem LvM_upd4 {g12 g13 g14 : Nat → Int32} {o : Nat → Nat} {y : Int32} : ∀ (r : List (Bool × List Nat)) (t : Nat), r.length ≤ t → LvM g12 g13 g14 o r → LvM g12 g13 (upd g14 t y) o r
  | [], t, _, _ => trivial
  | (q, l) :: r, t, ht, h => by
    have hl : r.length + 1 ≤ t := ht
    obtain ⟨a, b, c, d⟩ := h
    exact ⟨a, b, fun hl => by rw [updN _ _ (by omega)]; exact c hl, LvM_upd4 r t (by omega) d⟩
theorem enc_ne_nil {i c : Nat} (hi : i < 1100) : ¬ enc (vrd i c) = 1048576 := by
  intro h
  have := (nI_eq (a := 1048576 * 4 + i) (b := 1048576) (by omega) (by decide)).mp h
  omega
def AddM (o : Nat → Nat) (g a : St) (q : (Nat → Va × Va) × (Nat × List (Bool × List Nat))) : Prop :=
  a 0 3 = nI q.2.1 ∧ rowsM a q.1 q.2.1 ∧ a 0 7 = nI q.2.2.length ∧ LvM (a 12) (a 13) (a 14) o q.2.2 ∧ RF g a
theorem r_addV {o : Nat → Nat} {k : StL} {post : St → StL → Prop} (ho : ∀ i, i < 300 → o i < 1024) :
    ∀ (lv : List (Bool × List Nat)) (n rn : Nat) (rc : Nat → Va × Va) (v : Va) (g : St), lv.length < n → lv.length ≤ 12 → rn + nqs lv ≤ 200 → (∃ q l, (q, l) ∈ lv ∧ q = false) → g 0 3 = nI rn → rowsM g rc rn → LvM (g 12) (g 13) (g 14) o lv → g 0 7 = nI lv.length → (∀ q l, (q, l) ∈ lv → ∀ x ∈ l, x < rn) →
      (∀ a, AddM o g a (addV o lv rc rn v) → post a k) → V_X12_add_2 post n (enc v) g k
  | _, 0, _, _, _, _ => fun h => absurd h (by omega)
  | [], n + 1, rn, rc, v, g => fun _ _ _ h => by
    obtain ⟨q, l, h, -⟩ := h
    cases h
  | (q, l) :: r, n + 1, rn, rc, v, g => by
    intro a1 a2 a4 a3 a5 a6 a7 a8 a9 kk
    have hlen : ((q, l) :: r).length = r.length + 1 := rfl
    rw [hlen] at a1 a2 a8
    obtain ⟨b1, b2, b3, b4⟩ := a7
    have hm1 : nI (r.length + 1) - 1 = nI r.length := nI_pred _
    unfold V_X12_add_2
    rw [a8, hm1, nI_clamp (by omega), b1]
    refine ⟨fun c => absurd c (nI_nle (by omega) (by omega)), fun _ => ⟨vp_in_nI (by omega) (by decide), ?_⟩⟩
    cases q with
    | true =>
      have hnq : nqs ((true, l) :: r) = 2 + nqs r := rfl
      rw [hnq] at a4
      refine ⟨fun c => absurd c (by decide), fun _ => ?_⟩
      rw [show (1048576 : Int32) = enc vnil from rfl]
      refine r_cell (o := o rn) a5 (by omega) (ho _ (by omega)) ?_
      rw [show (3 : Int32) = nI 3 from rfl, show (2 : Int32) = nI 2 from rfl]
      refine r_code (v := vsym 2) (by show 2 < 40; decide) rfl rfl ?_
      refine r_cell (rn := rn + 1) (o := o (rn + 1)) rfl (by omega) (ho _ (by omega)) ?_
      refine eqI ?_
      have e7 : (clM (clM g rn (enc v) (enc vnil)) (rn + 1) (enc (vsym 2)) (enc (vrd rn (o rn)))) 0 7 - 1 = nI r.length := by
        show g 0 7 - 1 = _
        rw [a8]; exact hm1
      rw [e7]
      refine r_addV ho r n (rn + 2) _ _ _ (by omega) (by omega) (by omega) ?_ rfl ((a6.add v vnil).add (vsym 2) (vrd rn (o rn))) b4 rfl (fun q l h x hx => ?_) (fun a ha => kk a ?_)
      · obtain ⟨q, l2, h, e⟩ := a3
        rcases List.mem_cons.mp h with h | h
        · cases h; cases e
        · exact ⟨q, l2, h, e⟩
      · have := a9 q l (List.mem_cons_of_mem _ h) x hx
        omega
      · obtain ⟨c1, c2, c3, c4, c5⟩ := ha
        exact ⟨c1, c2, c3, c4, RF.trans (RF.trans (clM_RF g rn (enc v) (enc vnil)) (clM_RF _ (rn + 1) (enc (vsym 2)) (enc (vrd rn (o rn))))) (RF.trans (us7_RF _ _) c5)⟩
    | false =>
      have hnq : nqs ((false, l) :: r) = 1 + nqs r := rfl
      rw [hnq] at a4
      refine ⟨fun _ => ?_, fun c => absurd rfl c⟩
      unfold V_X12_add_55
      rw [show (1048576 : Int32) = enc vnil from rfl]
      refine r_cell (o := o rn) a5 (by omega) (ho _ (by omega)) ?_
      have e7 : ∀ (X : St), X 0 7 = g 0 7 → X 0 7 - 1 = nI r.length := fun X h => by rw [h, a8]; exact hm1
      rw [e7 (clM g rn (enc v) (enc vnil)) rfl, nI_clamp (by omega)]
      refine ⟨vp_in_nI (by omega) (by decide), ?_⟩
      have e13 : (clM g rn (enc v) (enc vnil)) 13 r.length = enc (hdv o l) := b2
      have e14 : (clM g rn (enc v) (enc vnil)) 14 r.length = g 14 r.length := rfl
      rw [e13, e14]
      rcases List.eq_nil_or_concat l with rfl | ⟨l, j, rfl⟩
      · refine ⟨fun c => absurd rfl c, fun _ => ⟨vp_in_nI (by omega) (by decide), eqI ?_⟩⟩
        rw [e7 (up (clM g rn (enc v) (enc vnil)) 13 r.length (enc (vrd rn (o rn)))) rfl, nI_clamp (by omega)]
        refine ⟨vp_in_nI (by omega) (by decide), eqI ?_⟩
        refine kk _ ⟨rfl, a6.add v vnil, a8, ⟨b1, ?_, fun _ => ?_, LvM_upd r r.length (Nat.le_refl _) b4⟩, RF.trans (clM_RF g rn (enc v) (enc vnil)) ⟨fun b h0 _ _ h13 h14 => ?_, fun _ _ _ => rfl⟩⟩
        · show upd (g 13) r.length _ r.length = _
          rw [updE]; rfl
        · show upd (g 14) r.length _ r.length = _
          rw [updE]; rfl
        · show up (up _ 13 _ _) 14 _ _ b = _
          rw [upB _ _ _ h14, upB _ _ _ h13]
      · rw [List.concat_eq_append] at *
        have hj := a9 false (l ++ [j]) List.mem_cons_self j (by simp)
        have hh : ∃ x c, hdv o (l ++ [j]) = vrd x c ∧ x < 1100 := by
          cases l with
          | nil => exact ⟨j, _, rfl, by omega⟩
          | cons y l => exact ⟨y, _, rfl, by have := a9 false ((y :: l) ++ [j]) List.mem_cons_self y (by simp); omega⟩
        obtain ⟨x9, c9, e9, h9⟩ := hh
        rw [e9]
        refine ⟨fun _ => ⟨vp_in_nI (by omega) (by decide), ?_⟩, fun c => absurd c (enc_ne_nil h9)⟩
        rw [b3 (by simp), tlv_last]
        unfold V_X12_setCdr
        have hjo : vok (vrd j (o j)) := ⟨by omega, ho j (by omega)⟩
        refine r_load hjo ⟨fun c => absurd c (nI_ge (b := 2000) (by show j < 2000; omega) (by decide)), fun _ => r_load hjo ⟨vp_in_nI (by show j < 1100; omega) (by decide), ?_⟩⟩
        rw [show vld (vrd j (o j)) = j from rfl, nI_clamp (by omega)]
        refine eqI ?_
        dsimp only
        rw [e7 (up (clM g rn (enc v) (enc vnil)) 7 j (enc (vrd rn (o rn)))) rfl, nI_clamp (by omega)]
        refine ⟨vp_in_nI (by omega) (by decide), eqI ?_⟩
        refine kk _ ⟨rfl, ?_, a8, ⟨b1, ?_, fun _ => ?_, LvM_upd4 r r.length (Nat.le_refl _) b4⟩, RF.trans (clM_RF g rn (enc v) (enc vnil)) ⟨fun b h0 _ h7 h13 h14 => ?_, fun _ _ _ => rfl⟩⟩
        · show rowsM _ (lnk (setC rc rn (v, vnil)) (l ++ [j]) (vrd rn (o rn))) (rn + 1)
          rw [lnk_last]
          intro i hi
          obtain ⟨m1, m2⟩ := a6.add v vnil i hi
          refine ⟨?_, ?_⟩
          · by_cases e : i = j
            · subst e; rw [setE]; exact m1
            · rw [setN _ _ e]; exact m1
          · show upd ((clM g rn (enc v) (enc vnil)) 7) j _ i = _
            by_cases e : i = j
            · subst e; rw [setE, updE]
            · rw [setN _ _ e, updN _ _ e]; exact m2
        · show g 13 r.length = _
          rw [b2]
          cases l <;> rfl
        · show upd (g 14) r.length _ r.length = _
          rw [updE, tlv_last]
        · show up (up _ 7 _ _) 14 _ _ b = _
          rw [upB _ _ _ h14, upB _ _ _ h7]
