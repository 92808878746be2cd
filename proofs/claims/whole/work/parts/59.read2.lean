-- ===== the reference at the end of an atom =====
theorem r_end {n sy fs ft rn : Nat} {nam : Nat → List Nat} {sv : Nat → Option Va} {rc : Nat → Va × Va} {lv : List (Bool × List Nat)} {g : St} {k : StL} {at1 : List Nat} {post : Int32 → St → StL → Prop} (hn : 300 ≤ n)
    (hS : SymM (g 0 2) (g 1) (g 2) (g 3) (k 1) sy nam sv) (hNam : NamOK sy nam) (hk : ∀ i, i < 31 → k 2 i = lN (nmL (OPTX.getD (i + 1) []))) (hR : RdM g rc rn) (hL : LvM (g 12) (g 13) (g 14) (fun i => ft + (i - fs)) lv) (hlo : g 0 7 = nI lv.length) (hlv : lv.length ≤ 12) (hA : AtM g k at1) (hl : ∀ x ∈ at1, isAc x = true) (hex : at1 ≠ [] → ∃ q l, (q, l) ∈ lv ∧ q = false) (hft : ft ≤ fs) (hfr : fs ≤ rn) (hb : rn + nqs lv ≤ 200) (hi1 : ∀ q l, (q, l) ∈ lv → ∀ x ∈ l, fs ≤ x ∧ x < rn) (hNew : NewR rc fs rn)
    (k0 : EA (fun i => ft + (i - fs)) sy nam sv rc rn lv at1 = none → ∀ g1, MFr g g1 k k sy nam sv rc rn (fun i => ft + (i - fs)) lv [] → g1 0 0 = 0 → post 0 g1 k) (k1 : ∀ q : EAT, EA (fun i => ft + (i - fs)) sy nam sv rc rn lv at1 = some q → ∀ g1 k1, MFr g g1 k k1 q.1 q.2.1 q.2.2.1 q.2.2.2.1 q.2.2.2.2.1 (fun i => ft + (i - fs)) q.2.2.2.2.2 [] → g1 0 0 = 0 → post 1 g1 k1) : V_X12_endAtom n (us g 0 0) k post := by
  obtain ⟨n1, n2, n3, n4, n5, n6⟩ := hNam
  have hok : ∀ i, i < rn → vok (rc i).1 ∧ vok (rc i).2 := fun i hi => (hR.2 i hi).2.2
  refine r_endAtom (g := us g 0 0) (sy := sy) (nam := nam) (rn := rn) (rc := rc) (lv := lv) (o := fun i => ft + (i - fs)) (l := at1) hn hl hA.1 hA.2 n2 hS.1 (fun s hs => ⟨(n6 s hs).1, (n6 s hs).2, (hS.2.1 s hs).1⟩) hk (fun i hi => by show ft + (i - fs) < 1024; omega) hlv hb hex hR.1 (fun i hi => ⟨(hR.2 i hi).1, (hR.2 i hi).2.1⟩) hL hlo (fun q l h x hx => (hi1 q l h x hx).2) (fun e => ?_) (fun v b g1 kk a hne ha e1 e2 hAM => ?_) (fun hne ha => ?_)
  · subst e
    exact k1 _ EA_e _ _ ⟨fun b h0 _ _ _ _ _ _ => usZ h0, fun i h0 _ _ _ _ _ _ _ => by rw [us0, if_neg h0], rfl, hS, hR, hlo, hL, hA⟩ rfl
  · have hao := aOut_ok ha n2
    have hmv := made_atm hao.1 (by cases b with | true => have := (hao.2 rfl).2.1; simp; omega | false => simpa using n2)
    obtain ⟨b1, b2, b3, b4, b5, b6, b7⟩ := addV_all (sy := sy) hfr hft hb hi1 hmv.1 hmv.2 hNew hok
    obtain ⟨c1, c2, c3, c4, c5, c6⟩ := hAM
    have hrows : RdM a (addV (fun i => ft + (i - fs)) lv rc rn v).1 (addV (fun i => ft + (i - fs)) lv rc rn v).2.1 := ⟨c1, fun i hi => ⟨(c2 i hi).1, (c2 i hi).2, b4 i hi⟩⟩
    have hz : ∀ i, i ≠ 3 → i ≠ 7 → a 0 i = g1 0 i := c6
    have ha0 : a 0 0 = 0 := by
      rw [hz 0 (by decide) (by decide), e1]
      cases b <;> rfl
    have ha8 : a 0 8 = 0 := by
      rw [hz 8 (by decide) (by decide), e1]
      cases b <;> rfl
    refine k1 _ (EA_s hne ha) _ _ ⟨fun x h0 h1 h6 h7 h12 h13 h14 => ?_, fun i h0 h2 h3 h7 h8 _ _ _ => ?_, ?_, ?_, hrows, c3, c4, ⟨ha8, fun c => absurd rfl c⟩⟩ ha0
    · rw [c5 x h0 h6 h7 h13 h14, e1]
      cases b with
      | false => show us (us g 0 0) 8 0 x = _; rw [usZ h0, usZ h0]
      | true =>
        show us (up (us (us g 0 0) 8 0) 1 sy _) 2 _ x = _
        rw [usZ h0, upB _ _ _ h1, usZ h0, usZ h0]
    · rw [hz i h3 h7, e1]
      cases b with
      | false => show us (us g 0 0) 8 0 0 i = _; rw [us0, if_neg h8, us0, if_neg h0]
      | true =>
        show us (up (us (us g 0 0) 8 0) 1 sy _) 2 _ 0 i = _
        rw [us0, if_neg h2]
        show us (us g 0 0) 8 0 0 i = _
        rw [us0, if_neg h8, us0, if_neg h0]
    · rw [e2]; cases b <;> rfl
    · rw [hz 2 (by decide) (by decide), c5 1 (by decide) (by decide) (by decide) (by decide) (by decide), c5 2 (by decide) (by decide) (by decide) (by decide) (by decide), c5 3 (by decide) (by decide) (by decide) (by decide) (by decide), e1, e2]
      cases b with
      | false => exact hS
      | true => exact symM_step (l := at1) hS (hao.2 rfl).2.1
  · exact k0 (EA_n hne ha) _ ⟨fun b h0 _ _ _ _ _ _ => by rw [usZ h0]; exact usZ h0, fun i h0 _ _ _ h8 _ _ _ => by rw [us0, if_neg h8, us0, if_neg h0], rfl, hS, hR, hlo, hL, ⟨rfl, fun c => absurd rfl c⟩⟩ rfl
-- ===== what a step at the end of an atom keeps =====
theorem EA_pure {sy fs ft rn : Nat} {nam : Nat → List Nat} {sv : Nat → Option Va} {rc : Nat → Va × Va} {lv : List (Bool × List Nat)} {at1 : List Nat} {q : EAT} (h : EA (fun i => ft + (i - fs)) sy nam sv rc rn lv at1 = some q) (hNam : NamOK sy nam) (hl : ∀ x ∈ at1, isAc x = true) (hft : ft ≤ fs) (hfr : fs ≤ rn) (hlv : lv.length ≤ 12) (hb : rn + nqs lv + (if at1 = [] then 0 else 1) ≤ 200) (hi1 : ∀ q l, (q, l) ∈ lv → ∀ x ∈ l, fs ≤ x ∧ x < rn) (hNew : NewR rc fs rn) (hok : ∀ i, i < rn → vok (rc i).1 ∧ vok (rc i).2) (hLR : LvO rc sy fs (fun i => ft + (i - fs)) lv rn) (hex : at1 ≠ [] → ∃ q l, (q, l) ∈ lv ∧ q = false) :
    NamOK q.1 q.2.1 ∧ sy ≤ q.1 ∧ (∀ s, s < sy → q.2.1 s = nam s) ∧ (∀ s v, s < q.1 → q.2.2.1 s = some v → s < sy ∧ sv s = some v) ∧ (∀ i, i < fs → q.2.2.2.1 i = rc i) ∧ fs ≤ q.2.2.2.2.1 ∧ LvO q.2.2.2.1 q.1 fs (fun i => ft + (i - fs)) q.2.2.2.2.2 q.2.2.2.2.1 ∧ q.2.2.2.2.2.length ≤ lv.length ∧ q.2.2.2.2.1 + nqs q.2.2.2.2.2 ≤ rn + nqs lv + (if at1 = [] then 0 else 1) ∧ (∀ a l, (a, l) ∈ q.2.2.2.2.2 → ∀ x ∈ l, fs ≤ x ∧ x < q.2.2.2.2.1) ∧ NewR q.2.2.2.1 fs q.2.2.2.2.1 ∧ (∀ i, i < q.2.2.2.2.1 → vok (q.2.2.2.1 i).1 ∧ vok (q.2.2.2.1 i).2) ∧ rn ≤ q.2.2.2.2.1 := by
  by_cases e : at1 = []
  · subst e
    rw [EA_e] at h
    cases h
    exact ⟨hNam, Nat.le_refl _, fun _ _ => rfl, fun s v a b => ⟨a, b⟩, fun _ _ => rfl, hfr, hLR, Nat.le_refl _, by simp, hi1, hNew, hok, Nat.le_refl _⟩
  · rw [if_neg e] at hb
    cases ha : aOut sy nam at1 with
    | none => rw [EA_n e ha] at h; cases h
    | some p =>
      obtain ⟨v, b⟩ := p
      rw [EA_s e ha] at h
      cases h
      have n2 := hNam.2.1
      have hao := aOut_ok ha n2
      have hmv := made_atm hao.1 (by cases b with | true => have := (hao.2 rfl).2.1; simp; omega | false => simpa using n2)
      obtain ⟨b1, b2, b3, b4, b5, b6, b7⟩ := addV_all (sy := sy) hfr hft (by omega) hi1 hmv.1 hmv.2 hNew hok
      have hsy : sy ≤ syS sy b := by cases b <;> simp [syS]
      have hatm : atm (syS sy b) v := by
        have := hao.1
        cases b <;> exact this
      have hLR1 := (LvR_congr (rc1 := rc) hsy lv rn (fun _ _ _ => rfl) hLR.1).1
      have hRv : RdV rc (syS sy b) (12 - lv.length) v rn rn := by
        cases h12 : 12 - lv.length with
        | zero => exact ⟨hatm, rfl⟩
        | succ d => exact Or.inl ⟨hatm, rfl⟩
      refine ⟨namOK_step hNam (fun eb => ⟨(hao.2 eb).2.1, (hao.2 eb).2.2.2.1, ac_nm hl⟩), hsy, fun s hs => ?_, fun s w hs hw => ?_, b1, b3, ⟨addV_R lv rc rn v rn hLR1 hRv hlv (hex e), addV_O hfr (by omega) hi1 (fun x c e => by subst e; exact hatm.elim) hLR.2⟩, b6, by rw [if_neg e]; exact b5, b7, b2, b4, ?_⟩
      · cases b with
        | false => rfl
        | true => exact if_neg (by omega)
      · cases b with
        | false => exact ⟨hs, hw⟩
        | true =>
          have hs : s < sy + 1 := hs
          have hw : (if s = sy then none else sv s) = some w := hw
          by_cases e2 : s = sy
          · rw [if_pos e2] at hw; cases hw
          · rw [if_neg e2] at hw; exact ⟨by omega, hw⟩
      · obtain ⟨-, -, a3, -⟩ := addV_old (o := fun i => ft + (i - fs)) (P := fun _ => True) trivial trivial (fun _ _ => trivial) 0 lv rc rn fs v hfr (by omega) hi1 trivial (fun _ _ _ => ⟨trivial, trivial⟩)
        exact a3
