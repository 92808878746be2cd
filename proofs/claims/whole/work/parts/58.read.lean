-- ===== a character that ends an atom: the class =====
theorem uoN {G : SG} {o b : Nat} {x : St} (h : b ≠ o) : uo G o x b = G b := by
  show cond (Nat.beq b o) x (G b) = G b
  cases e : Nat.beq b o with
  | true => exact absurd (Nat.eq_of_beq_eq_true e) h
  | false => rfl
theorem usZ {g : St} {j b : Nat} {x : Int32} (h : b ≠ 0) : us g j x b = g b := by
  cases b with
  | zero => exact absurd rfl h
  | succ b => rfl
abbrev EAT : Type := Nat × ((Nat → List Nat) × ((Nat → Option Va) × ((Nat → Va × Va) × (Nat × List (Bool × List Nat)))))
def EA (o : Nat → Nat) (sy : Nat) (nam : Nat → List Nat) (sv : Nat → Option Va) (rc : Nat → Va × Va) (rn : Nat) (lv : List (Bool × List Nat)) (at1 : List Nat) : Option EAT :=
  if at1 = [] then some (sy, nam, sv, rc, rn, lv) else
  match aOut sy nam at1 with
  | none => none
  | some (v, b) => some (syS sy b, namS nam sy at1 b, svS sv sy b, (addV o lv rc rn v).1, (addV o lv rc rn v).2.1, (addV o lv rc rn v).2.2)
theorem EA_e {o : Nat → Nat} {sy : Nat} {nam : Nat → List Nat} {sv : Nat → Option Va} {rc : Nat → Va × Va} {rn : Nat} {lv : List (Bool × List Nat)} : EA o sy nam sv rc rn lv [] = some (sy, nam, sv, rc, rn, lv) := if_pos rfl
theorem EA_n {o : Nat → Nat} {sy : Nat} {nam : Nat → List Nat} {sv : Nat → Option Va} {rc : Nat → Va × Va} {rn : Nat} {lv : List (Bool × List Nat)} {l : List Nat} (h : l ≠ []) (ha : aOut sy nam l = none) : EA o sy nam sv rc rn lv l = none := by
  unfold EA; rw [if_neg h, ha]
theorem EA_s {o : Nat → Nat} {sy : Nat} {nam : Nat → List Nat} {sv : Nat → Option Va} {rc : Nat → Va × Va} {rn : Nat} {lv : List (Bool × List Nat)} {l : List Nat} {v : Va} {b : Bool} (h : l ≠ []) (ha : aOut sy nam l = some (v, b)) : EA o sy nam sv rc rn lv l = some (syS sy b, namS nam sy l b, svS sv sy b, (addV o lv rc rn v).1, (addV o lv rc rn v).2.1, (addV o lv rc rn v).2.2) := by
  unfold EA; rw [if_neg h, ha]
/-- what is read holds no made object; it stands in cells that are told -/
def NewR (rc : Nat → Va × Va) (fs rn : Nat) : Prop := ∀ i, fs ≤ i → i < rn → ¬ made (rc i).1 ∧ ¬ made (rc i).2
theorem addV_all {fs ft rn sy : Nat} {lv : List (Bool × List Nat)} {rc : Nat → Va × Va} {v : Va} (hf : fs ≤ rn) (hft : ft ≤ fs) (hb : rn + nqs lv ≤ 200) (hi : ∀ q l, (q, l) ∈ lv → ∀ x ∈ l, fs ≤ x ∧ x < rn) (hv : ¬ made v) (hvo : vok v) (hn : NewR rc fs rn) (hok : ∀ i, i < rn → vok (rc i).1 ∧ vok (rc i).2) :
    (∀ i, i < fs → (addV (fun i => ft + (i - fs)) lv rc rn v).1 i = rc i) ∧ NewR (addV (fun i => ft + (i - fs)) lv rc rn v).1 fs (addV (fun i => ft + (i - fs)) lv rc rn v).2.1 ∧ fs ≤ (addV (fun i => ft + (i - fs)) lv rc rn v).2.1 ∧ (∀ i, i < (addV (fun i => ft + (i - fs)) lv rc rn v).2.1 → vok ((addV (fun i => ft + (i - fs)) lv rc rn v).1 i).1 ∧ vok ((addV (fun i => ft + (i - fs)) lv rc rn v).1 i).2) ∧ (addV (fun i => ft + (i - fs)) lv rc rn v).2.1 + nqs (addV (fun i => ft + (i - fs)) lv rc rn v).2.2 ≤ rn + nqs lv + 1 ∧ (addV (fun i => ft + (i - fs)) lv rc rn v).2.2.length ≤ lv.length ∧ ∀ q l, (q, l) ∈ (addV (fun i => ft + (i - fs)) lv rc rn v).2.2 → ∀ x ∈ l, fs ≤ x ∧ x < (addV (fun i => ft + (i - fs)) lv rc rn v).2.1 := by
  obtain ⟨a1, a2, a3, a4, a5, a6⟩ := addV_old (o := fun i => ft + (i - fs)) (P := vok) trivial (by show 2 < 40; decide) (fun i hi => ⟨by omega, by omega⟩) 0 lv rc rn fs v hf hb hi hvo (fun i _ h => hok i h)
  obtain ⟨b1, b2, b3, -⟩ := addV_old (o := fun i => ft + (i - fs)) (P := fun v => ¬ made v) (fun h => h) (fun h => h) (fun _ _ h => h) fs lv rc rn fs v hf hb hi hv (fun i h1 h2 => hn i h1 h2)
  exact ⟨a1, b2, by omega, fun i h => a2 i (Nat.zero_le _) h, a4, a5, a6⟩
theorem made_atm {sy : Nat} {v : Va} (h : atm sy v) (hy : sy ≤ 40) : ¬ made v ∧ vok v := by
  rcases v with _ | v | v | v | v | v | v
  · exact ⟨fun h => h, trivial⟩
  · exact ⟨fun h => h, h⟩
  · have h : v < sy := h
    exact ⟨fun h => h, by show v < 40; omega⟩
  · exact h.elim
  · exact h.elim
  · exact h.elim
  · exact h.elim
/-- the read cells of the class after a step of its own -/
theorem RdC_add {h a : St} {rc rc1 : Nat → Va × Va} {rn rn1 fs ft : Nat} {φ : Nat → Nat} {K : Nat → Nat → Prop} {lo hi : Nat} (h0 : RdC h rc rn fs ft φ K lo hi) (e1 : a 0 1 = nI (2 * (ft + (rn1 - fs)))) (e2 : ∀ i, i ≠ 1 → a 0 i = h 0 i) (hm : memOK a φ rc1 fs ft rn1) (e3 : ∀ x, x < 2 * ft → a 1 x = h 1 x) (hrc : ∀ i, i < fs → rc1 i = rc i) (hn : NewR rc1 fs rn1) (hf : fs ≤ rn1) : RdC a rc1 rn1 fs ft φ K lo hi := by
  obtain ⟨q1, q2, q3, q4, q5, q6, q7, q8, q9, q10, q11, q12, q13, q14⟩ := h0
  refine ⟨e1, by rw [e2 2 (by decide)]; exact q2, by rw [e2 3 (by decide)]; exact q3, by rw [e2 4 (by decide)]; exact q4, q5, q6, hf, q8, q9, q10, q11, q12, fun i x hx => ?_, fun i hi => ?_⟩
  · rcases hx with hx | ⟨x1, x2, x3⟩
    · obtain ⟨y1, y2⟩ := q9 i x hx
      rw [e3 _ (by omega), e3 _ (by omega), hrc i y1]
      exact q13 i x (Or.inl hx)
    · subst x3
      exact hm i x1 x2
  · by_cases e : i < fs
    · rw [hrc i e]; exact q14 i (by omega)
    · obtain ⟨z1, z2⟩ := hn i (by omega) hi
      exact ⟨fun c => absurd c z1, fun c => absurd c z2⟩
/-- of the start of a call: the class with its calls counted -/
abbrev GT (G : SG) (j : Nat) : SG := uo G 0 (us (G 0) 0 (nI (j + 1)))
theorem c_end {N n j sy fs ft rn : Nat} {nam : Nat → List Nat} {sv : Nat → Option Va} {φ : Nat → Nat} {rc : Nat → Va × Va} {K : Nat → Nat → Prop} {lo hi : Nat} {lv : List (Bool × List Nat)} {G : SG} {at1 : List Nat} {post : Int32 → SG → Prop} (hn : 300 ≤ n) (hN : 2048 ≤ N) (hN2 : N < 2 ^ 31)
    (hS : SymC (G 1) sy nam sv φ) (hNam : NamOK sy nam) (hR : RdC (G 2) rc rn fs ft φ K lo hi) (hL : LvC (G 3 2) (G 3 3) (G 3 4) φ (fun i => ft + (i - fs)) lv) (hlo : G 3 0 1 = nI lv.length) (hlv : lv.length ≤ 12) (hA : AtC (G 3) at1) (h64 : at1.length ≤ 64) (hl : ∀ x ∈ at1, isAc x = true) (hb : rn + nqs lv ≤ 200) (hi1 : ∀ q l, (q, l) ∈ lv → ∀ x ∈ l, fs ≤ x ∧ x < rn) (hNew : NewR rc fs rn) (hok : ∀ i, i < rn → vok (rc i).1 ∧ vok (rc i).2)
    (k0 : EA (fun i => ft + (i - fs)) sy nam sv rc rn lv at1 = none → ∀ G1, CFr G G1 j sy nam sv rc rn fs ft φ K lo hi lv [] → post 0 G1) (k1 : ∀ q : EAT, EA (fun i => ft + (i - fs)) sy nam sv rc rn lv at1 = some q → ∀ G1, CFr G G1 j q.1 q.2.1 q.2.2.1 q.2.2.2.1 q.2.2.2.2.1 fs ft φ K lo hi q.2.2.2.2.2 [] → post 1 G1) : V_X6_endAtom N n (GT G j) post := by
  have hR0 := hR
  obtain ⟨q1, q2, q3, q4, q5, q6, q7, q8, q9, q10, q11, q12, q13, q14⟩ := hR
  have hm : memOK (G 2) φ rc fs ft rn := fun i a b => q13 i _ (Or.inr ⟨a, b, rfl⟩)
  obtain ⟨s1, s2, s3⟩ := hS
  obtain ⟨n1, n2, n3, n4, n5, n6⟩ := hNam
  refine c_endAtom (G := GT G j) (rc := rc) (lv := lv) (fs := fs) (ft := ft) (rn := rn) (nam := nam) (φ := φ) hn h64 hA.1 hA.2 hl n2 s1 (fun s hs => ⟨(n6 s hs).1, (n6 s hs).2, (s2 s hs).1, (s2 s hs).2.2.2.2⟩) hN hN2 q8 hlv q7 hb q1 hm hL hlo hi1 (fun e => ?_) (fun v b h1 a2 a3 hne ha hs hA2 => ?_) (fun hne ha h1 hs => ?_)
  · subst e
    refine k1 _ EA_e _ ⟨fun o h0 _ _ _ => ?_, rfl, ⟨s1, s2, s3⟩, hR0, fun _ _ => rfl, fun _ _ _ => rfl, hlo, hL, hA⟩
    exact uoN h0
  · have hao := aOut_ok ha n2
    have hmv := made_atm hao.1 (by cases b with | true => have := (hao.2 rfl).2.1; simp; omega | false => simpa using n2)
    obtain ⟨b1, b2, b3, b4, b5, b6, b7⟩ := addV_all (sy := sy) q7 q8 hb hi1 hmv.1 hmv.2 hNew hok
    obtain ⟨c1, c2, c3, c4, c5, c6, c7, c8, c9⟩ := hA2
    refine k1 _ (EA_s hne ha) _ ⟨fun o h0 h1' h2 h3 => ?_, rfl, ?_, ?_, fun a ha => c4 a (Or.inr ha), fun i h1 _ => c2 i h1, c7, c6, ?_⟩
    · rw [uoN h3, uoN h2, uoN h1']; exact uoN h0
    · exact symC_step (l := at1) ⟨s1, s2, s3⟩ hs (fun e => (hao.2 e).2.1) (fun s hs => (n6 s hs).1)
    · exact RdC_add hR0 c1 (fun i hi => c2 i hi) c3 (fun x hx => c4 x (Or.inl hx)) b1 b2 b3
    · refine ⟨?_, fun i hi => absurd hi (Nat.not_lt_zero _)⟩
      show a3 0 0 = _
      rw [c8 0 (by decide)]; rfl
  · refine k0 (EA_n hne ha) _ ⟨fun o h0 h1' h2 h3 => ?_, rfl, ?_, hR0, fun _ _ => rfl, fun _ _ _ => rfl, hlo, hL, ⟨rfl, fun i hi => absurd hi (Nat.not_lt_zero _)⟩⟩
    · rw [uoN h3, uoN h1']; exact uoN h0
    · exact symC_step (l := at1) (b := false) ⟨s1, s2, s3⟩ hs (fun e => by cases e) (fun s hs => (n6 s hs).1)
