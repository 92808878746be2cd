-- ===== opening, closing, dropping: the reference =====
theorem LvM_upd3 {g12 g13 g14 : Nat → Int32} {o : Nat → Nat} {x y : Int32} : ∀ (r : List (Bool × List Nat)) (t : Nat), r.length ≤ t → LvM g12 g13 g14 o r → LvM (upd g12 t x) (upd g13 t y) g14 o r
  | [], t, _, _ => trivial
  | (q, l) :: r, t, ht, h => by
    have hl : r.length + 1 ≤ t := ht
    obtain ⟨a, b, c, d⟩ := h
    exact ⟨by rw [updN _ _ (by omega)]; exact a, by rw [updN _ _ (by omega)]; exact b, c, LvM_upd3 r t (by omega) d⟩
section RDM
variable {n sy rn fs ft : Nat} {nam : Nat → List Nat} {sv : Nat → Option Va} {rc : Nat → Va × Va} {lv : List (Bool × List Nat)} {g g1 : St} {k k1 : StL} {post : Int32 → St → StL → Prop}
theorem r_drop {fs1 : Nat} {at1 : List Nat} (h : MFr g g1 k k1 sy nam sv rc rn (fun i => ft + (i - fs)) lv at1) (kk : ∀ g2, MFr g g2 k k1 sy nam sv rc rn (fun i => ft + (i - fs1)) [] [] → g2 0 0 = 1 → post 0 g2 k1) : V_X12_drop g1 k1 post := by
  obtain ⟨m1, m2, m3, m4, m5, m6, m7, m8⟩ := h
  unfold V_X12_drop V_X12_raise
  refine eqI (eqI (eqI ?_))
  refine kk _ ⟨fun b h0 h1 h6 h7 h12 h13 h14 => by rw [usZ h0, usZ h0, usZ h0]; exact m1 b h0 h1 h6 h7 h12 h13 h14, fun i h0 h2 h3 h7 h8 h9 h10 h11 => by rw [us0, if_neg h0, us0, if_neg h8, us0, if_neg h7]; exact m2 i h0 h2 h3 h7 h8 h9 h10 h11, m3, m4, m5, rfl, trivial, ⟨rfl, fun c => absurd rfl c⟩⟩ rfl
theorem r_open {q : Bool} {x : Int32} (hx : x = if q then 39 else 40) (h : MFr g g1 k k1 sy nam sv rc rn (fun i => ft + (i - fs)) lv []) (hz : g1 0 0 = 0) (hl : lv.length ≤ 12) (k1' : lv.length < 12 → ∀ g2, MFr g g2 k k1 sy nam sv rc rn (fun i => ft + (i - fs)) ((q, []) :: lv) [] → g2 0 0 = 0 → post 0 g2 k1) (k0 : lv.length = 12 → ∀ g2, MFr g g2 k k1 sy nam sv rc rn (fun i => ft + (i - rn)) [] [] → g2 0 0 = 1 → post 0 g2 k1) : V_X12_type_93 post n x g1 k1 := by
  obtain ⟨m1, m2, m3, m4, m5, m6, m7, m8⟩ := id h
  unfold V_X12_type_93
  rw [m6]
  refine ⟨fun c => ?_, fun c => r_drop h (k0 (nI_inj (b := 12) (by omega) (by decide) c))⟩
  have hlt : lv.length < 12 := by
    rcases Nat.lt_or_ge lv.length 12 with z | z
    · exact z
    · exact absurd (by rw [show lv.length = 12 by omega]; rfl) c
  have fin : ∀ y : Int32, y = (if q then 1 else 0) → V_X12_type_148 post n x (us (up (up g1 12 lv.length y) 13 lv.length 1048576) 7 (nI (lv.length + 1))) k1 := by
    intro y ey
    unfold V_X12_type_148
    refine ⟨fun c => absurd (hx.symm.trans c) (by cases q <;> decide), fun _ => ?_⟩
    refine k1' hlt _ ⟨fun b h0 h1 h6 h7 h12 h13 h14 => ?_, fun i h0 h2 h3 h7 h8 h9 h10 h11 => ?_, m3, m4, m5, rfl, ⟨?_, ?_, fun c => absurd rfl c, LvM_upd3 lv lv.length (Nat.le_refl _) m7⟩, m8⟩ hz
    · rw [usZ h0, upB _ _ _ h13, upB _ _ _ h12]; exact m1 b h0 h1 h6 h7 h12 h13 h14
    · rw [us0, if_neg h7]; exact m2 i h0 h2 h3 h7 h8 h9 h10 h11
    · show upd (g1 12) lv.length y lv.length = _
      rw [updE, ey]
    · show upd (g1 13) lv.length _ lv.length = _
      rw [updE]; rfl
  refine ⟨fun c2 => ?_, fun c2 => ?_⟩
  · have hq : q = false := by
      cases q with
      | false => rfl
      | true => exact absurd hx c2
    rw [nI_clamp (by omega), show vp_nar .boolean (0 : Int32) = 0 from rfl]
    refine ⟨vp_in_nI (by omega) (by decide), eqI ?_⟩
    rw [show (up g1 12 lv.length 0) 0 7 = nI lv.length from m6, nI_clamp (by omega)]
    refine ⟨vp_in_nI (by omega) (by decide), eqI (eqI ?_)⟩
    rw [show (up (up g1 12 lv.length 0) 13 lv.length 1048576) 0 7 = nI lv.length from m6, nI_1]
    exact fin 0 (by rw [hq]; rfl)
  · have hq : q = true := by
      cases q with
      | true => rfl
      | false => exact absurd (hx.symm.trans c2) (by decide)
    rw [nI_clamp (by omega), show vp_nar .boolean (1 : Int32) = 1 from rfl]
    refine ⟨vp_in_nI (by omega) (by decide), eqI ?_⟩
    rw [show (up g1 12 lv.length 1) 0 7 = nI lv.length from m6, nI_clamp (by omega)]
    refine ⟨vp_in_nI (by omega) (by decide), eqI (eqI ?_)⟩
    rw [show (up (up g1 12 lv.length 1) 13 lv.length 1048576) 0 7 = nI lv.length from m6, nI_1]
    exact fin 1 (by rw [hq]; rfl)
theorem r_closeNo {at1 : List Nat} (h : MFr g g1 k k1 sy nam sv rc rn (fun i => ft + (i - fs)) lv at1) (hl : lv.length ≤ 12) (hq : lv = [] ∨ ∃ l r, lv = (true, l) :: r) (kk : ∀ g2, MFr g g2 k k1 sy nam sv rc rn (fun i => ft + (i - rn)) [] [] → g2 0 0 = 1 → post 0 g2 k1) : V_X12_type_148 post n 41 g1 k1 := by
  obtain ⟨m1, m2, m3, m4, m5, m6, m7, m8⟩ := id h
  unfold V_X12_type_148
  refine ⟨fun _ => ?_, fun c => absurd rfl c⟩
  rw [m6]
  rcases hq with rfl | ⟨l, r, rfl⟩
  · exact ⟨fun _ => r_drop h kk, fun c => absurd rfl c⟩
  · have hlen : ((true, l) :: r).length = r.length + 1 := rfl
    rw [hlen] at m6 hl ⊢
    rw [show nI (r.length + 1) - 1 = nI r.length from nI_pred _, nI_clamp (by omega), m7.1]
    refine ⟨fun c => absurd c (nI_ne0 (by omega) (by omega)), fun _ => ⟨vp_in_nI (by omega) (by decide), fun c => absurd c (by decide), fun _ => r_drop h kk⟩⟩
theorem r_close {l : List Nat} {r : List (Bool × List Nat)} (h : MFr g g1 k k1 sy nam sv rc rn (fun i => ft + (i - fs)) ((false, l) :: r) []) (hz : g1 0 0 = 0) (hn : 20 ≤ n) (hl : r.length + 1 ≤ 12) (hO : outF ((false, l) :: r)) (hft : ft ≤ fs) (hfr : fs ≤ rn) (hb : rn + nqs r ≤ 200) (hi1 : ∀ q l, (q, l) ∈ r → ∀ x ∈ l, fs ≤ x ∧ x < rn) (hi2 : ∀ x ∈ l, fs ≤ x ∧ x < rn) (hNew : NewR rc fs rn)
    (k1' : r ≠ [] → ∀ g2, MFr g g2 k k1 sy nam sv (addV (fun i => ft + (i - fs)) r rc rn (hdv (fun i => ft + (i - fs)) l)).1 (addV (fun i => ft + (i - fs)) r rc rn (hdv (fun i => ft + (i - fs)) l)).2.1 (fun i => ft + (i - fs)) (addV (fun i => ft + (i - fs)) r rc rn (hdv (fun i => ft + (i - fs)) l)).2.2 [] → g2 0 0 = 0 → post 0 g2 k1)
    (k2 : r = [] → V_X12_run n (enc (hdv (fun i => ft + (i - fs)) l)) (us g1 7 0) k1 (fun r_14 g_12 k_13 => post r_14 g_12 k_13)) : V_X12_type_148 post n 41 g1 k1 := by
  obtain ⟨m1, m2, m3, m4, m5, m6, m7, m8⟩ := id h
  obtain ⟨b1, b2, b3, b4⟩ := m7
  have hlen : ((false, l) :: r).length = r.length + 1 := rfl
  rw [hlen] at m6
  unfold V_X12_type_148
  refine ⟨fun _ => ?_, fun c => absurd rfl c⟩
  rw [m6, show nI (r.length + 1) - 1 = nI r.length from nI_pred _, nI_clamp (by omega), b1]
  refine ⟨fun c => absurd c (nI_ne0 (by omega) (by omega)), fun _ => ⟨vp_in_nI (by omega) (by decide), fun _ => eqI ?_, fun c => absurd rfl c⟩⟩
  rw [show (us g1 7 (nI r.length)) 0 7 = nI r.length from rfl, nI_clamp (by omega)]
  refine ⟨fun c => ?_, fun c => ?_⟩
  · have hr : r ≠ [] := fun e => c (by rw [e]; rfl)
    rw [show (us g1 7 (nI r.length)) 13 r.length = enc (hdv (fun i => ft + (i - fs)) l) from b2]
    refine ⟨vp_in_nI (by omega) (by decide), ?_⟩
    unfold V_X12_add
    have hok : ∀ i, i < rn → vok (rc i).1 ∧ vok (rc i).2 := fun i hi => (m5.2 i hi).2.2
    have hv : ¬ made (hdv (fun i => ft + (i - fs)) l) ∧ vok (hdv (fun i => ft + (i - fs)) l) := by
      cases l with
      | nil => exact ⟨fun h => h, trivial⟩
      | cons x l => exact ⟨fun h => h, by have := hi2 x List.mem_cons_self; exact ⟨by omega, by show ft + (x - fs) < 1024; omega⟩⟩
    obtain ⟨d1, d2, d3, d4, d5, d6, d7⟩ := addV_all (sy := sy) hfr hft hb hi1 hv.1 hv.2 hNew hok
    refine r_addV (o := fun i => ft + (i - fs)) (fun i hi => by show ft + (i - fs) < 1024; omega) r n rn rc _ (us g1 7 (nI r.length)) (by omega) (by omega) hb (outF_ex r (outF_tl hO) hr) m5.1 (fun i hi => ⟨(m5.2 i hi).1, (m5.2 i hi).2.1⟩) b4 rfl (fun q l h x hx => (hi1 q l h x hx).2) (fun a ha => ?_)
    obtain ⟨c1, c2, c3, c4, c5, c6⟩ := ha
    refine k1' hr a ⟨fun b h0 h1 h6 h7 h12 h13 h14 => ?_, fun i h0 h2 h3 h7 h8 h9 h10 h11 => ?_, m3, ?_, ⟨c1, fun i hi => ⟨(c2 i hi).1, (c2 i hi).2, d4 i hi⟩⟩, c3, c4, ⟨?_, fun c => absurd rfl c⟩⟩ ?_
    · rw [c5 b h0 h6 h7 h13 h14, usZ h0]; exact m1 b h0 h1 h6 h7 h12 h13 h14
    · rw [c6 i h3 h7, us0, if_neg h7]; exact m2 i h0 h2 h3 h7 h8 h9 h10 h11
    · rw [c6 2 (by decide) (by decide), c5 1 (by decide) (by decide) (by decide) (by decide) (by decide), c5 2 (by decide) (by decide) (by decide) (by decide) (by decide), c5 3 (by decide) (by decide) (by decide) (by decide) (by decide)]
      exact m4
    · rw [c6 8 (by decide) (by decide)]; exact m8.1
    · rw [c6 0 (by decide) (by decide)]; exact hz
  · have hr : r = [] := List.length_eq_zero_iff.mp (nI_inj (b := 0) (by omega) (by decide) c)
    subst hr
    refine ⟨vp_in_nI (n := 0) (by decide) (by decide), ?_⟩
    rw [show (us g1 7 (nI ([] : List (Bool × List Nat)).length)) 13 (0 : Int32).toNatClampNeg = enc (hdv (fun i => ft + (i - fs)) l) from b2]
    exact k2 rfl
end RDM
