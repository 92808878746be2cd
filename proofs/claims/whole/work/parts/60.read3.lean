-- ===== opening, closing, dropping: the class =====
theorem outF_ex : ∀ (lv : List (Bool × List Nat)), outF lv → lv ≠ [] → ∃ q l, (q, l) ∈ lv ∧ q = false
  | [], _, h => absurd rfl h
  | [(q, l)], h, _ => ⟨q, l, by simp, h⟩
  | _ :: x :: r, h, _ => by
    obtain ⟨q, l, h1, h2⟩ := outF_ex (x :: r) h (by simp)
    exact ⟨q, l, List.mem_cons_of_mem _ h1, h2⟩
theorem outF_tl {x : Bool × List Nat} {r : List (Bool × List Nat)} (h : outF (x :: r)) : outF r := by
  cases r with
  | nil => trivial
  | cons y r => exact h
theorem outF_cons {q : Bool} {l : List Nat} {r : List (Bool × List Nat)} (h : outF r) (hq : r = [] → q = false) : outF ((q, l) :: r) := by
  cases r with
  | nil => exact hq rfl
  | cons y r => exact h
theorem addV_out {o : Nat → Nat} : ∀ (lv : List (Bool × List Nat)) (rc : Nat → Va × Va) (rn : Nat) (v : Va), outF lv → outF (addV o lv rc rn v).2.2
  | [], rc, rn, v, h => trivial
  | (true, l) :: r, rc, rn, v, h => addV_out r _ _ _ (outF_tl h)
  | (false, l) :: r, rc, rn, v, h => outF_cons (outF_tl h) (fun _ => rfl)
theorem EA_out {o : Nat → Nat} {sy rn : Nat} {nam : Nat → List Nat} {sv : Nat → Option Va} {rc : Nat → Va × Va} {lv : List (Bool × List Nat)} {at1 : List Nat} {q : EAT} (h : EA o sy nam sv rc rn lv at1 = some q) (hO : outF lv) : outF q.2.2.2.2.2 := by
  by_cases e : at1 = []
  · subst e
    rw [EA_e] at h
    cases h
    exact hO
  · cases ha : aOut sy nam at1 with
    | none => rw [EA_n e ha] at h; cases h
    | some p =>
      obtain ⟨v, b⟩ := p
      rw [EA_s e ha] at h
      cases h
      exact addV_out lv rc rn v hO
theorem LvC_upd3 {h2 h3 h4 : Nat → Int32} {φ o : Nat → Nat} {x y w : Int32} : ∀ (r : List (Bool × List Nat)) (t : Nat), r.length ≤ t → LvC h2 h3 h4 φ o r → LvC (upd h2 t x) (upd h3 t y) (upd h4 t w) φ o r
  | [], t, _, _ => trivial
  | (q, l) :: r, t, ht, h => by
    have hl : r.length + 1 ≤ t := ht
    obtain ⟨a, b, c, d⟩ := h
    exact ⟨by rw [updN _ _ (by omega)]; exact a, by rw [updN _ _ (by omega)]; exact b, by rw [updN _ _ (by omega)]; exact c, LvC_upd3 r t (by omega) d⟩
theorem RdC_drop {h : St} {rc : Nat → Va × Va} {rn fs ft : Nat} {φ : Nat → Nat} {K : Nat → Nat → Prop} {lo hi : Nat} (h0 : RdC h rc rn fs ft φ K lo hi) : RdC (us h 1 (h 0 2)) rc rn rn ft φ K lo hi := by
  obtain ⟨q1, q2, q3, q4, q5, q6, q7, q8, q9, q10, q11, q12, q13, q14⟩ := h0
  refine ⟨?_, q2, q3, q4, q5, q6, Nat.le_refl _, by omega, fun i x hi => ⟨Nat.lt_of_lt_of_le (q9 i x hi).1 q7, (q9 i x hi).2⟩, q10, q11, q12, fun i x hi => q13 i x (hi.elim Or.inl (fun z => absurd z.1 (by have := z.2.1; omega))), q14⟩
  show h 0 2 = _
  rw [q2, Nat.sub_self, Nat.add_zero]
section RDV
variable {N j sy rn fs ft lo hi : Nat} {nam : Nat → List Nat} {sv : Nat → Option Va} {rc : Nat → Va × Va} {φ : Nat → Nat} {K : Nat → Nat → Prop} {lv : List (Bool × List Nat)} {G G1 : SG} {post : Int32 → SG → Prop}
theorem CFr_next {h2 h3 : St} {rc1 : Nat → Va × Va} {rn1 fs1 : Nat} {lv1 : List (Bool × List Nat)} {at1 at2 : List Nat} (h : CFr G G1 j sy nam sv rc rn fs ft φ K lo hi lv at1) (e2 : RdC h2 rc1 rn1 fs1 ft φ K lo hi) (e3 : ∀ a, 2048 ≤ a → h2 1 a = G1 2 1 a) (e4 : ∀ i, i ≠ 1 → i ≠ 2 → h2 0 i = G1 2 0 i) (e5 : h3 0 1 = nI lv1.length) (e6 : LvC (h3 2) (h3 3) (h3 4) φ (fun i => ft + (i - fs1)) lv1) (e7 : AtC h3 at2) : CFr G (uo (uo G1 2 h2) 3 h3) j sy nam sv rc1 rn1 fs1 ft φ K lo hi lv1 at2 := by
  obtain ⟨c1, c2, c3, c4, c5, c6, c7, c8, c9⟩ := h
  refine ⟨fun o h0 h1 h2 h3 => ?_, c2, c3, e2, fun a ha => (e3 a ha).trans (c5 a ha), fun i h1 h2 => (e4 i h1 h2).trans (c6 i h1 h2), e5, e6, e7⟩
  rw [uoN h3, uoN h2]
  exact c1 o h0 h1 h2 h3
theorem c_refuse {at1 : List Nat} (h : CFr G G1 j sy nam sv rc rn fs ft φ K lo hi lv at1) (k : ∀ G2, CFr G G2 j sy nam sv rc rn rn ft φ K lo hi [] [] → post 2 G2) : V_X6_refuse N G1 post := by
  unfold V_X6_refuse V_X6_drop
  refine eqI (eqI (eqI ?_))
  unfold V_X2_dropRead
  refine eqI (eqI ?_)
  rw [uo_uo, uo_sw _ _ _ (by decide : (3 : Nat) ≠ 2)]
  refine k _ (CFr_next h (RdC_drop h.2.2.2.1) (fun _ _ => rfl) (fun i h1 h2 => ?_) rfl trivial ⟨rfl, fun i hi => absurd hi (Nat.not_lt_zero _)⟩)
  show us (G1 2) 1 _ 0 i = _
  rw [us0, if_neg h1]
theorem c_open {q : Bool} (h : CFr G G1 j sy nam sv rc rn fs ft φ K lo hi lv []) (hl : lv.length ≤ 12) (k1 : lv.length < 12 → ∀ G2, CFr G G2 j sy nam sv rc rn fs ft φ K lo hi ((q, []) :: lv) [] → post 0 G2) (k0 : lv.length = 12 → ∀ G2, CFr G G2 j sy nam sv rc rn rn ft φ K lo hi [] [] → post 2 G2) : V_X6_openOne N (if q then 1 else 0) G1 post := by
  have c7 := h.2.2.2.2.2.2.1
  unfold V_X6_openOne
  rw [c7]
  refine ⟨fun c => absurd c (nI_pos (by omega)), fun _ => ?_⟩
  refine ⟨fun c => ?_, fun c => ?_⟩
  · have hlt : lv.length < 12 := (nI_ltI (b := 12) (by omega) (by decide)).mp c
    have hb : vp_nar .boolean (if q then (1 : Int32) else 0) = if q then 1 else 0 := by cases q <;> rfl
    rw [hb, nI_clamp (by omega)]
    refine ⟨vp_in_nI hlt (by decide), eqI ?_⟩
    have e1 : ∀ X : SG, X 3 0 1 = nI lv.length → X 3 0 1 = nI lv.length := fun _ h => h
    rw [show (uo G1 3 (up (G1 3) 2 lv.length (if q then 1 else 0))) 3 0 1 = nI lv.length from c7, nI_clamp (by omega)]
    refine ⟨vp_in_nI hlt (by decide), eqI ?_⟩
    rw [uo_uo, show (uo G1 3 (up ((uo G1 3 (up (G1 3) 2 lv.length (if q then 1 else 0))) 3) 3 lv.length 1)) 3 0 1 = nI lv.length from c7, nI_clamp (by omega)]
    refine ⟨vp_in_nI hlt (by decide), eqI (eqI ?_)⟩
    rw [uo_uo, uo_uo]
    show post 0 (uo G1 3 (us (up (up (up (G1 3) 2 lv.length (if q then 1 else 0)) 3 lv.length 1) 4 lv.length 1) 1 (G1 3 0 1 + 1)))
    rw [c7, nI_1]
    have key : uo G1 3 (us (up (up (up (G1 3) 2 lv.length (if q then 1 else 0)) 3 lv.length 1) 4 lv.length 1) 1 (nI (lv.length + 1))) = uo (uo G1 2 (G1 2)) 3 (us (up (up (up (G1 3) 2 lv.length (if q then 1 else 0)) 3 lv.length 1) 4 lv.length 1) 1 (nI (lv.length + 1))) := by
      rw [show uo G1 2 (G1 2) = G1 from uo_id rfl]
    refine k1 hlt _ ?_
    show CFr G (uo G1 3 (us (up (up (up (G1 3) 2 lv.length (if q then 1 else 0)) 3 lv.length 1) 4 lv.length 1) 1 (nI (lv.length + 1)))) j sy nam sv rc rn fs ft φ K lo hi ((q, []) :: lv) []
    rw [key]
    refine CFr_next h h.2.2.2.1 (fun _ _ => rfl) (fun _ _ _ => rfl) rfl ⟨?_, ?_, ?_, LvC_upd3 lv lv.length (Nat.le_refl _) h.2.2.2.2.2.2.2.1⟩ ⟨h.2.2.2.2.2.2.2.2.1, fun i hi => absurd hi (Nat.not_lt_zero _)⟩
    · show upd (G1 3 2) lv.length _ lv.length = _
      rw [updE]
    · show upd (G1 3 3) lv.length _ lv.length = _
      rw [updE]; exact wd_nil.symm
    · show upd (G1 3 4) lv.length _ lv.length = _
      rw [updE]; exact wd_nil.symm
  · refine c_refuse h (fun G2 hG => k0 ?_ G2 hG)
    rcases Nat.lt_or_ge lv.length 12 with z | z
    · exact absurd (nI_lt (b := 12) z (by decide)) c
    · omega
theorem c_closeNo {n : Nat} (h : CFr G G1 j sy nam sv rc rn fs ft φ K lo hi lv []) (hl : lv.length ≤ 12) (hq : lv = [] ∨ ∃ l r, lv = (true, l) :: r) (k : ∀ G2, CFr G G2 j sy nam sv rc rn rn ft φ K lo hi [] [] → post 2 G2) : V_X6_close N n G1 post := by
  have c7 := h.2.2.2.2.2.2.1
  unfold V_X6_close
  rw [c7]
  rcases hq with rfl | ⟨l, r, rfl⟩
  · exact ⟨fun _ => c_refuse h k, fun c => absurd (Int32.le_refl 0) c⟩
  · have hlen : ((true, l) :: r).length = r.length + 1 := rfl
    have c8 := h.2.2.2.2.2.2.2.1.1
    rw [hlen] at c7 hl ⊢
    refine ⟨fun _ => c_refuse h k, fun _ => ⟨fun _ => c_refuse h k, fun _ => ?_⟩⟩
    unfold V_X6_isQuoteOpen
    rw [c7, show nI (r.length + 1) - 1 = nI r.length from nI_pred _, nI_clamp (by omega), c8]
    refine ⟨fun c => absurd c (nI_nle (by omega) (by omega)), fun _ => ⟨fun c => absurd c (nI_nlt (a := 12) (by omega) (by decide)), fun _ => ⟨vp_in_nI (by omega) (by decide), fun c => absurd c (by decide), fun _ => ⟨fun c => absurd c (by decide), fun _ => c_refuse h k⟩⟩⟩⟩
theorem c_close {n : Nat} {l : List Nat} {r : List (Bool × List Nat)} (h : CFr G G1 j sy nam sv rc rn fs ft φ K lo hi ((false, l) :: r) []) (hn : 20 ≤ n) (hN : 2048 ≤ N) (hN2 : N < 2 ^ 31) (hl : r.length + 1 ≤ 12) (hb : rn + nqs r ≤ 200) (hi1 : ∀ q l, (q, l) ∈ r → ∀ x ∈ l, fs ≤ x ∧ x < rn) (hi2 : ∀ x ∈ l, fs ≤ x ∧ x < rn) (hNew : NewR rc fs rn) (hok : ∀ i, i < rn → vok (rc i).1 ∧ vok (rc i).2)
    (k1 : r ≠ [] → ∀ G2, CFr G G2 j sy nam sv (addV (fun i => ft + (i - fs)) r rc rn (hdv (fun i => ft + (i - fs)) l)).1 (addV (fun i => ft + (i - fs)) r rc rn (hdv (fun i => ft + (i - fs)) l)).2.1 fs ft φ K lo hi (addV (fun i => ft + (i - fs)) r rc rn (hdv (fun i => ft + (i - fs)) l)).2.2 [] → post 0 G2)
    (k2 : r = [] → ∀ h2 h3, h2 = us (G1 2) 2 (G1 2 0 1) → h3 0 1 = nI 0 → h3 0 0 = nI 0 → h3 0 2 = cw φ (hdv (fun i => ft + (i - fs)) l) → post 1 (uo (uo G1 2 h2) 3 h3)) : V_X6_close N n G1 post := by
  obtain ⟨c1, c2, c3, c4, c5, c6, c7, c8, c9⟩ := id h
  obtain ⟨b1, b2, b3, b4⟩ := c8
  have hlen : ((false, l) :: r).length = r.length + 1 := rfl
  rw [hlen] at c7
  have hm1 : nI (r.length + 1) - 1 = nI r.length := nI_pred _
  unfold V_X6_close V_X6_isQuoteOpen
  rw [c7, hm1, nI_clamp (by omega), b1]
  refine ⟨fun c => absurd c (nI_nle (by omega) (by omega)), fun _ => ⟨fun c => absurd c (nI_nlt (a := 12) (by omega) (by decide)), fun _ => ⟨fun c => absurd c (nI_nle (by omega) (by omega)), fun _ => ⟨fun c => absurd c (nI_nlt (a := 12) (by omega) (by decide)), fun _ => ⟨vp_in_nI (by omega) (by decide), fun _ => ⟨fun _ => ?_, fun c => absurd rfl c⟩, fun c => absurd rfl c⟩⟩⟩⟩⟩
  rw [c7, hm1]
  refine eqI ?_
  have e1 : (uo G1 3 (us (G1 3) 1 (nI r.length))) 3 0 1 = nI r.length := rfl
  have e3 : (uo G1 3 (us (G1 3) 1 (nI r.length))) 3 3 r.length = cw φ (hdv (fun i => ft + (i - fs)) l) := b2
  rw [e1, nI_clamp (by omega), e3]
  refine ⟨vp_in_nI (by omega) (by decide), eqI ⟨fun c => ?_, fun c => ?_⟩⟩
  · have hr : r = [] := by
      have := (nI_leI (b := 0) (by omega) (by decide)).mp c
      exact List.length_eq_zero_iff.mp (by omega)
    subst hr
    unfold V_X2_keepRead
    refine eqI (eqI (eqI ?_))
    rw [uo_uo, uo_sw _ _ _ (by decide : (3 : Nat) ≠ 2)]
    exact k2 rfl _ _ rfl rfl c9.1 rfl
  · have hr : r ≠ [] := fun e => c (by rw [e]; exact Int32.le_refl _)
    have hmem : memOK (G1 2) φ rc fs ft rn := fun i a b => c4.2.2.2.2.2.2.2.2.2.2.2.2.1 i _ (Or.inr ⟨a, b, rfl⟩)
    unfold V_X6_addValue
    refine eqI ?_
    have key : uo G1 3 (us (G1 3) 1 (nI r.length)) = uo (uo G1 2 (G1 2)) 3 (us (G1 3) 1 (nI r.length)) := by
      rw [show uo G1 2 (G1 2) = G1 from uo_id rfl]
    rw [key]
    have hfr : fs ≤ rn := c4.2.2.2.2.2.2.1
    have hft : ft ≤ fs := c4.2.2.2.2.2.2.2.1
    have hv : ¬ made (hdv (fun i => ft + (i - fs)) l) ∧ vok (hdv (fun i => ft + (i - fs)) l) := by
      cases l with
      | nil => exact ⟨fun h => h, trivial⟩
      | cons x l => exact ⟨fun h => h, by have := hi2 x List.mem_cons_self; exact ⟨by omega, by show ft + (x - fs) < 1024; omega⟩⟩
    obtain ⟨d1, d2, d3, d4, d5, d6, d7⟩ := addV_all (sy := sy) hfr hft hb hi1 hv.1 hv.2 hNew hok
    refine c_addV hN hN2 hft r n 0 rn rc _ (G1 2) _ (by omega) (by omega) hfr hb c4.1 hmem b4 rfl hi1 (fun a2 a3 hA => k1 hr _ ?_)
    obtain ⟨x1, x2, x3, x4, x5, x6, x7, x8, x9⟩ := hA
    refine CFr_next h (RdC_add c4 x1 (fun i hi => x2 i hi) x3 (fun x hx => x4 x (Or.inl hx)) d1 d2 d3) (fun a ha => x4 a (Or.inr ha)) (fun i h1 _ => x2 i h1) x7 x6 ⟨?_, fun i hi => absurd hi (Nat.not_lt_zero _)⟩
    rw [x8 0 (by decide)]
    exact c9.1
end RDV
