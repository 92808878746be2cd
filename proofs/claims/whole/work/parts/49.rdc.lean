-- ===== a value is put behind the others =====
def setC (rc : Nat → Va × Va) (i : Nat) (v : Va × Va) : Nat → Va × Va := fun x => if x = i then v else rc x
def lnk (rc : Nat → Va × Va) : List Nat → Va → (Nat → Va × Va)
  | [], _ => rc
  | [i], v => setC rc i ((rc i).1, v)
  | _ :: j :: l, v => lnk rc (j :: l) v
def addV (o : Nat → Nat) : List (Bool × List Nat) → (Nat → Va × Va) → Nat → Va → (Nat → Va × Va) × (Nat × List (Bool × List Nat))
  | [], rc, rn, _ => (rc, rn, [])
  | (true, _) :: r, rc, rn, v => addV o r (setC (setC rc rn (v, vnil)) (rn + 1) (vsym 2, vrd rn (o rn))) (rn + 2) (vrd (rn + 1) (o (rn + 1)))
  | (false, l) :: r, rc, rn, v => (lnk (setC rc rn (v, vnil)) l (vrd rn (o rn)), rn + 1, (false, l ++ [rn]) :: r)
theorem setE (rc : Nat → Va × Va) (i : Nat) (v : Va × Va) : setC rc i v i = v := if_pos rfl
theorem setN (rc : Nat → Va × Va) {i x : Nat} (v : Va × Va) (h : x ≠ i) : setC rc i v x = rc x := if_neg h
theorem lnk_last (rc : Nat → Va × Va) : ∀ (l : List Nat) (j : Nat) (v : Va), lnk rc (l ++ [j]) v = setC rc j ((rc j).1, v)
  | [], j, v => rfl
  | [i], j, v => rfl
  | i :: k :: l, j, v => by
    show lnk rc (k :: (l ++ [j])) v = _
    exact lnk_last rc (k :: l) j v
theorem tlv_last (o : Nat → Nat) : ∀ (l : List Nat) (j : Nat), tlv o (l ++ [j]) = vrd j (o j)
  | [], j => rfl
  | [i], j => rfl
  | i :: k :: l, j => by
    show tlv o (k :: (l ++ [j])) = _
    exact tlv_last o (k :: l) j
theorem uo_uo (G : SG) (o : Nat) (x y : St) : uo (uo G o x) o y = uo G o y := by
  funext b
  show cond (Nat.beq b o) y (cond (Nat.beq b o) x (G b)) = cond (Nat.beq b o) y (G b)
  cases Nat.beq b o <;> rfl
theorem uo_sw (G : SG) {o p : Nat} (x y : St) (h : o ≠ p) : uo (uo G o x) p y = uo (uo G p y) o x := by
  funext b
  show cond (Nat.beq b p) y (cond (Nat.beq b o) x (G b)) = cond (Nat.beq b o) x (cond (Nat.beq b p) y (G b))
  cases e1 : Nat.beq b p with
  | false => rfl
  | true =>
    cases e2 : Nat.beq b o with
    | false => rfl
    | true => exact absurd ((Nat.eq_of_beq_eq_true e2).symm.trans (Nat.eq_of_beq_eq_true e1)) h
def rdC (h : St) (t : Nat) (x y : Int32) : St := up (up (us h 1 (nI (2 * t + 2))) 1 (2 * t) x) 1 (2 * t + 1) y
theorem c_readCell {N t : Nat} {x y : Int32} {h : St} {post : Int32 → St → Prop} (hN : 2048 ≤ N) (hN2 : N < 2 ^ 31) (ht : 2 * t + 2 ≤ 2048) (hh : h 0 1 = nI (2 * t)) (k : post (wd 4 (2 * t : Nat)) (rdC h t x y)) : V_X2_readCell N x y h post := by
  unfold V_X2_readCell
  rw [hh]
  refine eqI ⟨fun _ => eqI ?_, fun c => absurd (by rw [show (2 : Int32) = nI 2 from rfl, nI_add]; exact nI_le (b := 2048) ht (by decide)) c⟩
  rw [show (2 : Int32) = nI 2 from rfl, nI_add]
  refine v_put (by omega) hN2 ?_
  rw [show (1 : Int32) = nI 1 from rfl, nI_add]
  refine v_put (by omega) hN2 ?_
  show V_X10_of (nI 4) (nI (2 * t)) _
  rw [← iI_nat (2 * t)]
  refine v_of (t := 4) (by decide) ?_
  exact k
theorem rdC_1 (h : St) (t : Nat) (x y : Int32) : rdC h t x y 1 = upd (upd (h 1) (2 * t) x) (2 * t + 1) y := rfl
def memOK (h : St) (φ : Nat → Nat) (rc : Nat → Va × Va) (fs ft rn : Nat) : Prop := ∀ i, fs ≤ i → i < rn → h 1 (2 * (ft + (i - fs))) = cw φ (rc i).1 ∧ h 1 (2 * (ft + (i - fs)) + 1) = cw φ (rc i).2
theorem memOK.add {h : St} {φ : Nat → Nat} {rc : Nat → Va × Va} {fs ft rn : Nat} (hm : memOK h φ rc fs ft rn) (hf : fs ≤ rn) (v w : Va) {y : Int32} (hy : y = cw φ w) : memOK (rdC h (ft + (rn - fs)) (cw φ v) y) φ (setC rc rn (v, w)) fs ft (rn + 1) := by
  subst hy
  intro i h1 h2
  rw [rdC_1]
  by_cases e : i = rn
  · subst e
    rw [updN _ _ (by omega), updE, updE, setE]
    exact ⟨rfl, rfl⟩
  · rw [setN _ _ e, updN _ _ (by omega), updN _ _ (by omega), updN _ _ (by omega), updN _ _ (by omega)]
    exact hm i h1 (by omega)
/-- what is left as it was, and what is new -/
def AddR (φ : Nat → Nat) (fs ft : Nat) (h2 h3 a2 a3 : St) (q : (Nat → Va × Va) × (Nat × List (Bool × List Nat))) : Prop :=
  a2 0 1 = nI (2 * (ft + (q.2.1 - fs))) ∧ (∀ i, i ≠ 1 → a2 0 i = h2 0 i) ∧ memOK a2 φ q.1 fs ft q.2.1 ∧ (∀ a, (a < 2 * ft ∨ 2048 ≤ a) → a2 1 a = h2 1 a) ∧ (∀ b, b ≠ 0 → b ≠ 1 → a2 b = h2 b) ∧
  LvC (a3 2) (a3 3) (a3 4) φ (fun i => ft + (i - fs)) q.2.2 ∧ a3 0 1 = nI q.2.2.length ∧ (∀ i, i ≠ 1 → a3 0 i = h3 0 i) ∧ (∀ b, b ≠ 0 → b ≠ 3 → b ≠ 4 → a3 b = h3 b)
theorem LvC_upd {h2 h3 h4 : Nat → Int32} {φ o : Nat → Nat} {x y : Int32} : ∀ (r : List (Bool × List Nat)) (t : Nat), r.length ≤ t → LvC h2 h3 h4 φ o r → LvC h2 (upd h3 t x) (upd h4 t y) φ o r
  | [], t, _, _ => trivial
  | (q, l) :: r, t, ht, h => by
    have hl : r.length + 1 ≤ t := ht
    obtain ⟨a, b, c, d⟩ := h
    exact ⟨a, by rw [updN _ _ (by omega)]; exact b, by rw [updN _ _ (by omega)]; exact c, LvC_upd r t (by omega) d⟩
theorem LvC_upd4 {h2 h3 h4 : Nat → Int32} {φ o : Nat → Nat} {y : Int32} : ∀ (r : List (Bool × List Nat)) (t : Nat), r.length ≤ t → LvC h2 h3 h4 φ o r → LvC h2 h3 (upd h4 t y) φ o r
  | [], t, _, _ => trivial
  | (q, l) :: r, t, ht, h => by
    have hl : r.length + 1 ≤ t := ht
    obtain ⟨a, b, c, d⟩ := h
    exact ⟨a, b, by rw [updN _ _ (by omega)]; exact c, LvC_upd4 r t (by omega) d⟩
theorem cw_rd (φ : Nat → Nat) (i c : Nat) : cw φ (vrd i c) = wd 4 (2 * c : Nat) := rfl
theorem cw_ne1 {φ : Nat → Nat} {i c : Nat} (hc : c < 1024) : ¬ cw φ (vrd i c) = 1 := by
  rw [cw_rd, ← wd_nil, wd_inj (by decide) (by decide) (by omega) (by omega) (by decide) (by decide)]
  omega
theorem c_addV {N fs ft : Nat} {φ : Nat → Nat} {G : SG} {post : SG → Prop} (hN : 2048 ≤ N) (hN2 : N < 2 ^ 31) (hft : ft ≤ fs) :
    ∀ (lv : List (Bool × List Nat)) (n i rn : Nat) (rc : Nat → Va × Va) (v : Va) (h2 h3 : St), lv.length < n → i + lv.length ≤ 12 → fs ≤ rn → rn + nqs lv ≤ 200 → h2 0 1 = nI (2 * (ft + (rn - fs))) → memOK h2 φ rc fs ft rn → LvC (h3 2) (h3 3) (h3 4) φ (fun i => ft + (i - fs)) lv → h3 0 1 = nI lv.length → (∀ q l, (q, l) ∈ lv → ∀ x ∈ l, fs ≤ x ∧ x < rn) →
      (∀ a2 a3, AddR φ fs ft h2 h3 a2 a3 (addV (fun i => ft + (i - fs)) lv rc rn v) → post (uo (uo G 2 a2) 3 a3)) → V_X6_addValue_4 N post n (cw φ v) (nI i) (uo (uo G 2 h2) 3 h3)
  | _, 0, _, _, _, _, _, _ => fun h => absurd h (by omega)
  | [], n + 1, i, rn, rc, v, h2, h3 => by
    intro a1 a2 a3 a4 a5 a6 a7 a8 a9 k
    have h31 : (uo (uo G 2 h2) 3 h3) 3 0 1 = 0 := a8
    have fin : V_X6_addValue_55 N post n (cw φ v) (uo (uo G 2 h2) 3 h3) := by
      unfold V_X6_addValue_55
      rw [h31]
      refine ⟨fun _ => k h2 h3 ⟨a5, fun _ _ => rfl, a6, fun _ _ => rfl, fun _ _ _ => rfl, trivial, a8, fun _ _ => rfl, fun _ _ _ _ => rfl⟩, fun c => absurd (Int32.le_refl 0) c⟩
    unfold V_X6_addValue_4
    refine ⟨fun _ => fin, fun _ => ?_⟩
    unfold V_X6_isQuoteOpen
    rw [h31]
    exact ⟨fun _ => ⟨fun _ => fin, fun c => absurd rfl c⟩, fun c => absurd (Int32.le_refl 0) c⟩
  | (q, l) :: r, n + 1, i, rn, rc, v, h2, h3 => by
    intro a1 a2 a3 a4 a5 a6 a7 a8 a9 k
    have hlen : ((q, l) :: r).length = r.length + 1 := rfl
    rw [hlen] at a1 a2 a8
    obtain ⟨b1, b2, b3, b4⟩ := a7
    have h31 : (uo (uo G 2 h2) 3 h3) 3 0 1 = nI (r.length + 1) := a8
    have hm1 : nI (r.length + 1) - 1 = nI r.length := nI_pred _
    unfold V_X6_addValue_4
    refine ⟨fun c => absurd c (nI_ge (b := 12) (by omega) (by decide)), fun _ => ?_⟩
    unfold V_X6_isQuoteOpen
    rw [h31, hm1, nI_clamp (by omega)]
    have hq : (uo (uo G 2 h2) 3 h3) 3 2 r.length = (if q then 1 else 0) := b1
    refine ⟨fun c => absurd c (nI_nle (by omega) (by omega)), fun _ => ⟨fun c => absurd c (nI_nlt (a := 12) (by omega) (by decide)), fun _ => ⟨vp_in_nI (by omega) (by decide), ?_⟩⟩⟩
    rw [hq]
    cases q with
    | true =>
      have hnq : nqs ((true, l) :: r) = 2 + nqs r := rfl
      rw [hnq] at a4
      refine ⟨fun c => absurd c (by decide), fun _ => ⟨fun c => absurd c (by decide), fun _ => ?_⟩⟩
      rw [h31, hm1]
      refine eqI ?_
      rw [uo_uo]
      show V_X10_of (nI 3) (nI 2) _
      rw [← iI_nat 2]
      refine v_of (by decide) ?_
      refine c_readCell (h := h2) hN hN2 (by omega) a5 ?_
      refine eqI ?_
      rw [uo_sw _ _ _ (by decide : (3 : Nat) ≠ 2), uo_uo]
      have e1 : (rdC h2 (ft + (rn - fs)) (cw φ v) 1) 0 1 = nI (2 * (ft + (rn + 1 - fs))) := by
        show nI (2 * (ft + (rn - fs)) + 2) = _
        congr 1; omega
      rw [show wd 4 (2 * (ft + (rn - fs)) : Nat) = cw φ (vrd rn (ft + (rn - fs))) from rfl, show wd 3 ((2 : Nat) : Int) = cw φ (vsym 2) from rfl]
      refine c_readCell (h := rdC h2 (ft + (rn - fs)) (cw φ v) 1) (t := ft + (rn + 1 - fs)) hN hN2 (by omega) e1 ?_
      refine eqI ?_
      rw [uo_sw _ _ _ (by decide : (3 : Nat) ≠ 2), uo_uo]
      refine eqI ?_
      rw [nI_1, show wd 4 (2 * (ft + (rn + 1 - fs)) : Nat) = cw φ (vrd (rn + 1) (ft + (rn + 1 - fs))) from rfl]
      refine c_addV hN hN2 hft r n (i + 1) (rn + 2) _ _ _ _ (by omega) (by omega) (by omega) (by omega) ?_ ((a6.add a3 v vnil wd_nil.symm).add (by omega) (vsym 2) (vrd rn (ft + (rn - fs))) rfl) b4 rfl (fun q l h x hx => ?_) (fun x2 x3 hx => k x2 x3 ?_)
      · show nI (2 * (ft + (rn + 1 - fs)) + 2) = _
        congr 1; omega
      · have := a9 q l (List.mem_cons_of_mem _ h) x hx
        omega
      · obtain ⟨c1, c2, c3, c4, c5, c6, c7, c8, c9⟩ := hx
        refine ⟨c1, fun i hi => ?_, c3, fun a ha => ?_, fun b hb1 hb2 => ?_, c6, c7, fun i hi => ?_, fun b h0 h33 h44 => (c9 b h0 h33 h44).trans (by cases b with | zero => exact absurd rfl h0 | succ b => rfl)⟩
        · rw [c2 i hi]
          show (us (us h2 1 _) 1 _) 0 i = _
          rw [us0, if_neg hi, us0, if_neg hi]
        · rw [c4 a ha, rdC_1, rdC_1, updN _ _ (by omega), updN _ _ (by omega), updN _ _ (by omega), updN _ _ (by omega)]
        · rw [c5 b hb1 hb2]
          cases b with
          | zero => exact absurd rfl hb1
          | succ b =>
            show up (up (us (up (up (us h2 1 _) 1 _ _) 1 _ _) 1 _) 1 _ _) 1 _ _ (b + 1) = _
            rw [upB _ _ _ hb2, upB _ _ _ hb2, usB, upB _ _ _ hb2, upB _ _ _ hb2, usB]
        · rw [c8 i hi]
          show (us h3 1 _) 0 i = _
          rw [us0, if_neg hi]
    | false =>
      have hnq : nqs ((false, l) :: r) = 1 + nqs r := rfl
      rw [hnq] at a4
      refine ⟨fun _ => ⟨fun _ => ?_, fun c => absurd rfl c⟩, fun c => absurd rfl c⟩
      unfold V_X6_addValue_55
      rw [h31]
      refine ⟨fun c => absurd c (nI_nle (by omega) (by omega)), fun _ => ⟨fun _ => ?_, fun c => absurd (nI_le (b := 12) (by omega) (by decide)) c⟩⟩
      refine c_readCell (h := h2) hN hN2 (by omega) a5 ?_
      refine eqI ?_
      rw [uo_sw _ _ _ (by decide : (3 : Nat) ≠ 2), uo_uo]
      rw [show wd 4 (2 * (ft + (rn - fs)) : Nat) = cw φ (vrd rn (ft + (rn - fs))) from rfl]
      have h31' : (uo (uo G 2 (rdC h2 (ft + (rn - fs)) (cw φ v) 1)) 3 h3) 3 0 1 = nI (r.length + 1) := a8
      rw [h31', hm1, nI_clamp (by omega)]
      refine ⟨vp_in_nI (by omega) (by decide), eqI ?_⟩
      have h4 : (uo (uo G 2 (rdC h2 (ft + (rn - fs)) (cw φ v) 1)) 3 h3) 3 4 r.length = cw φ (tlv (fun i => ft + (i - fs)) l) := b3
      rw [h4]
      rcases List.eq_nil_or_concat l with rfl | ⟨l, j, rfl⟩
      · refine ⟨fun c => absurd wd_nil c, fun _ => ⟨vp_in_nI (by omega) (by decide), eqI ?_⟩⟩
        rw [uo_uo]
        have h31'' : (uo (uo G 2 (rdC h2 (ft + (rn - fs)) (cw φ v) 1)) 3 (up h3 3 r.length (cw φ (vrd rn (ft + (rn - fs)))))) 3 0 1 = nI (r.length + 1) := a8
        rw [show ((uo (uo G 2 (rdC h2 (ft + (rn - fs)) (cw φ v) 1)) 3 h3) 3) = h3 from rfl, h31'', hm1, nI_clamp (by omega)]
        refine ⟨vp_in_nI (by omega) (by decide), eqI ?_⟩
        rw [uo_uo]
        refine k _ _ ⟨?_, fun i hi => ?_, a6.add a3 v vnil wd_nil.symm, fun a ha => ?_, fun b hb1 hb2 => ?_, ?_, a8, fun _ _ => rfl, fun b h0 h3' h4' => ?_⟩
        · show nI (2 * (ft + (rn - fs)) + 2) = nI (2 * (ft + (rn + 1 - fs)))
          congr 1; omega
        · show (us h2 1 _) 0 i = _
          rw [us0, if_neg hi]
        · rw [rdC_1, updN _ _ (by omega), updN _ _ (by omega)]
        · cases b with
          | zero => exact absurd rfl hb1
          | succ b =>
            show up (up (us h2 1 _) 1 _ _) 1 _ _ (b + 1) = _
            rw [upB _ _ _ hb2, upB _ _ _ hb2, usB]
        · refine ⟨b1, ?_, ?_, LvC_upd r r.length (Nat.le_refl _) b4⟩
          · show upd (h3 3) r.length _ r.length = _
            rw [updE]; rfl
          · show upd (h3 4) r.length _ r.length = _
            rw [updE]; rfl
        · show up (up h3 3 _ _) 4 _ _ b = _
          rw [upB _ _ _ h4', upB _ _ _ h3']
      · rw [List.concat_eq_append] at *
        rw [tlv_last]
        have hj := a9 false (l ++ [j]) List.mem_cons_self j (by simp)
        refine ⟨fun _ => ?_, fun c => absurd c (cw_ne1 (by omega))⟩
        refine v_held (t := 4) (h := ((2 * (ft + (j - fs)) : Nat) : Int)) (by decide) (by omega) (by omega) ?_
        rw [iI_nat, nI_1]
        refine v_put (by omega) hN2 ?_
        refine eqI ?_
        rw [uo_sw _ _ _ (by decide : (3 : Nat) ≠ 2), uo_uo]
        have h31'' : ∀ X, (uo (uo G 2 X) 3 h3) 3 0 1 = nI (r.length + 1) := fun _ => a8
        rw [h31'', hm1, nI_clamp (by omega)]
        refine ⟨vp_in_nI (by omega) (by decide), eqI ?_⟩
        rw [uo_uo]
        refine k _ _ ⟨?_, fun i hi => ?_, ?_, fun a ha => ?_, fun b hb1 hb2 => ?_, ?_, a8, fun _ _ => rfl, fun b h0 h3' h4' => ?_⟩
        · show nI (2 * (ft + (rn - fs)) + 2) = nI (2 * (ft + (rn + 1 - fs)))
          congr 1; omega
        · show (us h2 1 _) 0 i = _
          rw [us0, if_neg hi]
        · show memOK _ φ (lnk (setC rc rn (v, vnil)) (l ++ [j]) (vrd rn (ft + (rn - fs)))) fs ft (rn + 1)
          rw [lnk_last]
          have hm := a6.add a3 v vnil wd_nil.symm
          intro i h1 h2'
          obtain ⟨m1, m2⟩ := hm i h1 h2'
          show upd (rdC h2 _ _ _ 1) _ _ _ = _ ∧ upd (rdC h2 _ _ _ 1) _ _ _ = _
          by_cases e : i = j
          · subst e
            rw [setE, updN _ _ (by omega), updE]
            exact ⟨m1, rfl⟩
          · rw [setN _ _ e, updN _ _ (by omega), updN _ _ (by omega)]
            exact ⟨m1, m2⟩
        · show upd (rdC h2 _ _ _ 1) _ _ _ = _
          rw [updN _ _ (by omega), rdC_1, updN _ _ (by omega), updN _ _ (by omega)]
        · cases b with
          | zero => exact absurd rfl hb1
          | succ b =>
            show up (up (up (us h2 1 _) 1 _ _) 1 _ _) 1 _ _ (b + 1) = _
            rw [upB _ _ _ hb2, upB _ _ _ hb2, upB _ _ _ hb2, usB]
        · refine ⟨b1, ?_, ?_, LvC_upd4 r r.length (Nat.le_refl _) b4⟩
          · show h3 3 r.length = _
            rw [b2]
            cases l <;> rfl
          · show upd (h3 4) r.length _ r.length = _
            rw [updE, tlv_last]
        · show up h3 4 _ _ b = _
          rw [upB _ _ _ h4']
