-- ===== well-formed in the reference: all that is pending =====
section WF9
variable {g0 : St} {k : StL} {rc : Nat → Va × Va} {rn sy : Nat} {nam : Nat → List Nat}
/-- an entry: how deep, the form, its cells; how much there is to look at -/
def PeM : List (Nat × Va × Nat × Nat) → Nat
  | [] => 0
  | (_, _, lo, hi) :: es => (hi - lo) + 1 + PeM es
def PeG (rc : Nat → Va × Va) (sy rn : Nat) (e : Nat × Va × Nat × Nat) : Prop := RdV rc sy e.1 e.2.1 e.2.2.1 e.2.2.2 ∧ e.2.2.2 ≤ rn ∧ vok e.2.1
theorem PeM_len : ∀ es : List (Nat × Va × Nat × Nat), es.length ≤ PeM es
  | [] => Nat.le_refl _
  | (_, _, lo, hi) :: es => by
    have := PeM_len es
    show es.length + 1 ≤ (hi - lo) + 1 + PeM es
    omega
theorem PeM_app : ∀ a b : List (Nat × Va × Nat × Nat), PeM (a ++ b) = PeM a + PeM b
  | [], b => by show PeM b = 0 + PeM b; omega
  | (_, _, lo, hi) :: a, b => by
    have := PeM_app a b
    show (hi - lo) + 1 + PeM (a ++ b) = (hi - lo) + 1 + PeM a + PeM b
    omega
theorem PeM_rev : ∀ a : List (Nat × Va × Nat × Nat), PeM a.reverse = PeM a
  | [] => rfl
  | (d, v, lo, hi) :: a => by
    rw [List.reverse_cons, PeM_app, PeM_rev a]
    show PeM a + ((hi - lo) + 1 + 0) = (hi - lo) + 1 + PeM a
    omega
theorem Inc_len {F : Va → Nat → Nat → Prop} (hF : ∀ v a b, F v a b → a ≤ b) : ∀ (l : List Nat) (lo hi : Nat), Inc rc F l lo hi → lo + l.length ≤ hi
  | [], lo, hi, h => by have h : lo = hi := h; simp; omega
  | x :: l, lo, hi, h => by
    have := hF _ _ _ h.1
    have := Inc_len hF l (x + 1) hi h.2
    simp; omega
theorem Inc_pe {d : Nat} : ∀ (l : List Nat) (lo hi : Nat), Inc rc (RdV rc sy d) l lo hi → hi ≤ rn → (∀ x ∈ l, vok (rc x).1) → ∃ es : List (Nat × Va × Nat × Nat), es.map (fun e => e.2.1) = l.map (fun x => (rc x).1) ∧ (∀ e ∈ es, PeG rc sy rn e) ∧ PeM es = hi - lo ∧ ∀ e ∈ es, e.1 = d
  | [], lo, hi, h, _, _ => ⟨[], rfl, fun e he => (by cases he), by have h : lo = hi := h; show 0 = hi - lo; omega, fun e he => (by cases he)⟩
  | x :: l, lo, hi, h, hr, hv => by
    obtain ⟨es, a1, a2, a3, a4⟩ := Inc_pe l (x + 1) hi h.2 hr (fun y hy => hv y (by simp [hy]))
    have hle := RdV_le d _ _ _ h.1
    have hlt := Inc_len (RdV_le d) l (x + 1) hi h.2
    refine ⟨(d, (rc x).1, lo, x) :: es, ?_, fun e he => ?_, ?_, fun e he => ?_⟩
    · show (rc x).1 :: es.map (fun e => e.2.1) = _
      rw [a1]; rfl
    · rcases List.mem_cons.mp he with e1 | e1
      · subst e1; exact ⟨h.1, by show x ≤ rn; omega, hv x (by simp)⟩
      · exact a2 e e1
    · show (x - lo) + 1 + PeM es = hi - lo
      omega
    · rcases List.mem_cons.mp he with e1 | e1
      · subst e1; rfl
      · exact a4 e e1
theorem RdV_sym {d : Nat} {v : Va} {lo hi s : Nat} (h : RdV rc sy d v lo hi) (e : v = vsym s) : s < sy := by
  subst e
  cases d with
  | zero => exact h.1
  | succ d =>
    rcases h with h | ⟨l, h1, h2, -⟩ | ⟨n, c, h1, -⟩
    · exact h.1
    · cases l with
      | nil => exact absurd rfl h1
      | cons x l => obtain ⟨⟨c, e⟩, -⟩ := h2; cases e
    · cases h1
theorem atm_kd {v : Va} (h : atm sy v) : vkd v ≤ 3 := by
  rcases v with _ | v | v | v | v | v | v
  · show 1 ≤ 3; decide
  · show 2 ≤ 3; decide
  · show 3 ≤ 3; decide
  · exact h.elim
  · exact h.elim
  · exact h.elim
  · exact h.elim
/-- the list of a form's parts: parameters or atoms -/
theorem RdV_lb {d : Nat} {v : Va} {lo hi : Nat} (h : RdV rc sy d v lo hi) (hr : hi ≤ rn) (hrn : rn < 1100) (hv : vok v) : (∃ sy, atm sy v ∧ v ≠ vnil) ∨ ∃ l, lbR rc rn v l ∧ l.length < 1100 := by
  have nilc : atm sy v → (∃ sy, atm sy v ∧ v ≠ vnil) ∨ ∃ l, lbR rc rn v l ∧ l.length < 1100 := fun h => by
    by_cases e : v = vnil
    · exact Or.inr ⟨[], ⟨e, fun x hx => (by cases hx), hv⟩, by show 0 < 1100; decide⟩
    · exact Or.inl ⟨sy, h, e⟩
  cases d with
  | zero => exact nilc h.1
  | succ d =>
    rcases h with h | ⟨l, h1, h2, h3⟩ | ⟨n, c, h1, h2, h3, h4, h5⟩
    · exact nilc h.1
    · have hin := (Inc_in (RdV_le d) l lo hi h3).2
      have hl := Inc_len (RdV_le d) l lo hi h3
      exact Or.inr ⟨l, ⟨h2, fun x hx => by have := hin x hx; omega, hv⟩, by omega⟩
    · refine Or.inr ⟨[n + 1, n], ⟨⟨⟨c, h1⟩, h3⟩, fun x hx => ?_, hv⟩, by show 2 < 1100; decide⟩
      simp at hx
      omega
theorem Inc_wfP {d i : Nat} {l : List Nat} {lo hi : Nat} (h : Inc rc (RdV rc sy d) (i :: l) lo hi) (op : Nat) : ∃ lo1, lo ≤ lo1 ∧ lo1 ≤ hi ∧ Inc rc (RdV rc sy d) (wfP i l op) lo1 hi := by
  have hle := RdV_le d _ _ _ h.1
  have hlt := Inc_len (RdV_le d) l (i + 1) hi h.2
  have tl : ∃ lo1, lo ≤ lo1 ∧ lo1 ≤ hi ∧ Inc rc (RdV rc sy d) l.tail lo1 hi := by
    cases l with
    | nil => exact ⟨hi, by omega, Nat.le_refl _, rfl⟩
    | cons a b =>
      have h2 := RdV_le d _ _ _ h.2.1
      have h3 := Inc_len (RdV_le d) b (a + 1) hi h.2.2
      exact ⟨a + 1, by omega, by omega, h.2.2⟩
  unfold wfP
  split
  · exact ⟨lo, Nat.le_refl _, by omega, h⟩
  · exact ⟨hi, by omega, Nat.le_refl _, rfl⟩
  · exact tl
  · exact tl
  · exact ⟨i + 1, by omega, by omega, h.2⟩
theorem ar_bool {op len : Nat} (hl : len < 1000) : nI len ≤ (if MOSTL.getD op 0 = 1000000 then 9999 else MOSTL.getD op 0) ↔ nI len ≤ MOSTL.getD op 0 := by
  by_cases e : MOSTL.getD op 0 = 1000000
  · rw [if_pos e, e]
    exact ⟨fun _ => nI_le (b := 1000000) (by omega) (by decide), fun _ => nI_le (b := 9999) (by omega) (by decide)⟩
  · rw [if_neg e]
theorem op_q (h : NamOK sy nam) : opV nam (vsym 2) = 1 := by
  show opx (nam 2) = 1
  rw [h.2.2.2.2.1]
  decide +kernel
set_option maxHeartbeats 1000000 in
theorem r_wf9 {post : Int32 → St → StL → Prop} (hR : RdM g0 rc rn) (hrn : rn ≤ 900) (hN : NamOK sy nam) (hO : ∀ s, s < sy → g0 1 s = nI (opR (opx (nam s)))) (hT : ∀ i, i < 31 → g0 4 i = FEWL.getD (i + 1) 0 ∧ g0 5 i = (if MOSTL.getD (i + 1) 0 = 1000000 then 9999 else MOSTL.getD (i + 1) 0)) :
    ∀ (m : Nat) (es : List (Nat × Va × Nat × Nat)) (n : Nat) (g : St), PeM es ≤ m → m ≤ 1000 → m + 6000 < n → (∀ e ∈ es, PeG rc sy rn e) → PdR g0 g (es.map (fun e => e.2.1)) → ((∀ e ∈ es, WFE rc nam e.1 e.2.1) → ∀ g1, PdR g0 g1 [] → post 1 g1 k) → (¬ (∀ e ∈ es, WFE rc nam e.1 e.2.1) → ∀ g1, PdR g0 g1 [] → post 0 g1 k) → V_X12_wellFormed_9 post n (nI es.length) g k := by
  intro m
  induction m with
  | zero =>
    intro es n g h1 _ h3 _ hP k1 _
    obtain ⟨n, rfl⟩ : ∃ n', n = n' + 1 := ⟨n - 1, by omega⟩
    have := PeM_len es
    have e : es = [] := List.length_eq_zero_iff.mp (by omega)
    subst e
    unfold V_X12_wellFormed_9
    exact ⟨fun _ => k1 (fun e he => (by cases he)) g hP, fun c => absurd (Int32.le_refl 0) c⟩
  | succ m ih =>
    intro es n g h1 h2 h3 hG hP k1 k0
    obtain ⟨n, rfl⟩ : ∃ n', n = n' + 1 := ⟨n - 1, by omega⟩
    cases es with
    | nil =>
      unfold V_X12_wellFormed_9
      exact ⟨fun _ => k1 (fun e he => (by cases he)) g hP, fun c => absurd (Int32.le_refl 0) c⟩
    | cons e0 es =>
      obtain ⟨d, v, lo, hi⟩ := e0
      obtain ⟨hRd, hhi, hvv⟩ := hG _ List.mem_cons_self
      have hRd : RdV rc sy d v lo hi := hRd
      have hhi : hi ≤ rn := hhi
      have hvv : vok v := hvv
      have h1 : (hi - lo) + 1 + PeM es ≤ m + 1 := h1
      have hel := PeM_len es
      have hP2 : PdR g0 g (v :: es.map (fun e => e.2.1)) := hP
      obtain ⟨hPt, hPv⟩ := PdR_pop hP2
      rw [List.length_map] at hPv
      have hnil : ∀ g1, PdR g0 g1 (es.map (fun e => e.2.1)) → PdR g0 g1 [] := fun g1 h => ⟨h.1, fun t ht => absurd ht (Nat.not_lt_zero _)⟩
      unfold V_X12_wellFormed_9
      refine ⟨fun c => absurd c (nI_nle (n := (es.length + 1)) (by omega) (by omega)), fun _ => ?_⟩
      rw [show nI ((d, v, lo, hi) :: es).length + (-1 : Int32) = nI es.length by
        rw [show (-1 : Int32) = iI (-1) from rfl, ← iI_nat, ← iI_nat, iI_add]
        congr 1
        show ((es.length + 1 : Nat) : Int) + -1 = _
        omega]
      refine eqI ⟨vp_in_nI (by omega) (by decide), ?_⟩
      rw [nI_clamp (by omega), hPv]
      refine eqI (r_sort hvv ?_)
      have atomc : atm sy v → ∀ (hw : WFE rc nam d v), (nI (vkd v) = 4 → False) ∧ V_X12_wellFormed_9 post n (nI es.length) g k := fun ha hw => by
        refine ⟨fun c => by have := atm_kd ha; have := (nI_eq (b := 4) (by omega) (by decide)).mp c; omega, ?_⟩
        refine ih es n g (by omega) (by omega) (by omega) (fun e he => hG e (by simp [he])) hPt (fun h => k1 (fun e he => ?_)) (fun h => k0 (fun h5 => h (fun e he => h5 e (by simp [he]))))
        rcases List.mem_cons.mp he with e1 | e1
        · subst e1; exact hw
        · exact h e e1
      have wfA : atm sy v → WFE rc nam d v := fun ha => by
        cases d with
        | zero => trivial
        | succ d =>
          rcases v with _ | v | v | v | v | v | v
          · trivial
          · trivial
          · trivial
          · exact ha.elim
          · exact ha.elim
          · exact ha.elim
          · exact ha.elim
      have main : ∀ d1 i c l, d = d1 + 1 → v = vrd i c → lbR rc rn (rc i).2 l → l.length + 1 ≤ hi - lo → (∀ s, (rc i).1 = vsym s → s < sy) → (opV nam (rc i).1 = 6 → ∀ a b, l = a :: b → (∃ sy, atm sy (rc a).1 ∧ (rc a).1 ≠ vnil) ∨ ∃ l1, lbR rc rn (rc a).1 l1 ∧ l1.length < 1100) → (∃ es1 : List (Nat × Va × Nat × Nat), es1.map (fun e => e.2.1) = (wfP i l (opV nam (rc i).1)).map (fun x => (rc x).1) ∧ (∀ e ∈ es1, PeG rc sy rn e) ∧ PeM es1 ≤ hi - lo ∧ ∀ e ∈ es1, e.1 = d1) →
          V_X12_opOf (enc v) g k (fun r_57 g_55 k_56 => V_X12_cdr (enc v) g_55 k_56 (fun r_60 g_58 k_59 => V_X12_parts n r_60 g_58 k_59 (fun r_63 g_61 k_62 => ((¬ r_57 = (31 : Int32) → (vp_in r_57 31 ∧ ((r_63 < (g_61 4 r_57.toNatClampNeg) → post (0 : Int32) g_61 k_62) ∧ (¬ r_63 < (g_61 4 r_57.toNatClampNeg) → (vp_in r_57 31 ∧ ((r_63 ≤ (g_61 5 r_57.toNatClampNeg) → V_X12_wellFormed_94 (fun x2 g k => V_X12_wellFormed_9 post n x2 g k) post n (nI es.length) (enc v) r_57 g_61 k_62) ∧ (¬ r_63 ≤ (g_61 5 r_57.toNatClampNeg) → post (0 : Int32) g_61 k_62))))))) ∧ (r_57 = (31 : Int32) → ((r_63 ≤ (4 : Int32) → V_X12_wellFormed_94 (fun x2 g k => V_X12_wellFormed_9 post n x2 g k) post n (nI es.length) (enc v) r_57 g_61 k_62) ∧ (¬ r_63 ≤ (4 : Int32) → post (0 : Int32) g_61 k_62))))))) := by
        intro d1 i c l ed ev hl hll hs hpar hes
        subst ed; subst ev
        have hRg := PdR_rd hPt hR
        have hi1 : i < rn := by
          have h9 : vok (vrd i c) := hvv
          rcases hRd with h | ⟨l9, h5, h6, h7⟩ | ⟨n9, c9, h5, h6, h7, h8, h9⟩
          · exact h.1.elim
          · cases l9 with
            | nil => exact absurd rfl h5
            | cons y l9 =>
              obtain ⟨⟨c1, e1⟩, -⟩ := h6
              cases e1
              have := (Inc_in (RdV_le d1) _ lo hi h7).2 i (by simp)
              omega
          · cases h5
            omega
        have hc : c < 1024 := hvv.2
        have hop := opV_lt nam (rc i).1
        generalize hopv : opV nam (rc i).1 = op at *
        have hor : opR op < 32 := by unfold opR; split <;> omega
        have hwf : WFE rc nam (d1 + 1) (vrd i c) ↔ (arOK op l.length ∧ wfC rc l op ∧ ∀ x ∈ wfP i l op, WFE rc nam d1 (rc x).1) := by
          rw [WFO_iff (F := WFE rc nam d1) (by omega) op]
          refine ⟨fun h => ?_, fun h => ⟨l, hl.1, by rw [hopv]; exact h⟩⟩
          obtain ⟨l2, a1, a2⟩ := h
          rw [hopv] at a2
          rw [Lst_uni l l2 _ hl.1 a1]; exact a2
        obtain ⟨es1, s1, s2, s3, s4⟩ := hes
        have hno : ¬ WFE rc nam (d1 + 1) (vrd i c) → ∀ g1, PdR g0 g1 [] → post 0 g1 k := fun h => k0 (fun h5 => h (h5 _ List.mem_cons_self))
        have go : arOK op l.length → V_X12_wellFormed_94 (fun x2 g k => V_X12_wellFormed_9 post n x2 g k) post n (nI es.length) (enc (vrd i c)) (nI (opR op)) g k := by
          intro har
          have h46 : op = 4 ∨ op = 6 → l ≠ [] := by
            rintro (e | e) e2 <;> subst e <;> subst e2 <;> exact absurd har.1 (by decide)
          have hlen : (es.map (fun e => e.2.1)).length = es.length := List.length_map _
          have := r_wf94 (K9 := fun x2 g k => V_X12_wellFormed_9 post n x2 g k) (post := post) (k := k) (pd := es.map (fun e => e.2.1)) (n := n) (op := op) (c := c) hR (by omega) hi1 hc hl hop (by omega) (by rw [hlen]; omega) hPt h46 hpar (fun hw => hno (fun h => hw (hwf.mp h).2.1) g (hnil g hPt)) (fun hw g1 hP1 => ?_)
          · rw [hlen] at this; exact this
          · have hlen1 : es1.length = (wfP i l op).length := by have := congrArg List.length s1; simpa using this
            have h9 := ih (es1.reverse ++ es) n g1 (by rw [PeM_app, PeM_rev]; omega) (by omega) (by omega) (fun e he => ?_) (by
              rw [List.map_append, List.map_reverse, s1]; exact hP1) (fun h => k1 (fun e he => ?_)) (fun h => k0 (fun h5 => h (fun e he => ?_)))
            · rw [List.length_append, List.length_reverse, hlen1] at h9
              rw [hlen, Nat.add_comm]; exact h9
            · rcases List.mem_append.mp he with e1 | e1
              · exact s2 e (List.mem_reverse.mp e1)
              · exact hG e (by simp [e1])
            · rcases List.mem_cons.mp he with e1 | e1
              · subst e1
                refine hwf.mpr ⟨har, hw, fun x hx => ?_⟩
                have hm : (rc x).1 ∈ es1.map (fun e => e.2.1) := by rw [s1]; exact List.mem_map_of_mem hx
                obtain ⟨e2, he2, e3⟩ := List.mem_map.mp hm
                have := h e2 (List.mem_append.mpr (Or.inl (List.mem_reverse.mpr he2)))
                rw [s4 e2 he2] at this
                rw [← e3]; exact this
              · exact h e (List.mem_append.mpr (Or.inr e1))
            · rcases List.mem_append.mp he with e1 | e1
              · have e1 := List.mem_reverse.mp e1
                rw [s4 e e1]
                have hm : e.2.1 ∈ (wfP i l op).map (fun x => (rc x).1) := by rw [← s1]; exact List.mem_map_of_mem e1
                obtain ⟨x, hx, e3⟩ := List.mem_map.mp hm
                have := (hwf.mp (h5 _ List.mem_cons_self)).2.2 x hx
                rw [← e3]; exact this
              · exact h5 e (by simp [e1])
        have bad : ¬ arOK op l.length → post 0 g k := fun h => hno (fun h5 => h (hwf.mp h5).1) g (hnil g hPt)
        have g1e : g 1 = g0 1 := hPt.1 1 (by decide)
        refine r_opOf (nam := nam) (sy := sy) hRg (by omega) hi1 hc hN.2.1 (fun s hs2 => by rw [g1e]; exact hO s hs2) hs ?_
        rw [hopv]
        refine r_cdr1 hRg hi1 (by omega) hc (r_parts hRg (by omega) (by omega) (by omega) hl ?_)
        refine ⟨fun c31 => ?_, fun c31 => ?_⟩
        · have h0 : op ≠ 0 := fun e => c31 (by rw [e]; rfl)
          have eo : opR op = op - 1 := by unfold opR; rw [if_neg h0]
          obtain ⟨t4, t5⟩ := hT (op - 1) (by omega)
          rw [show op - 1 + 1 = op by omega] at t4 t5
          rw [eo, nI_clamp (by omega), hPt.1 4 (by decide), hPt.1 5 (by decide), t4, t5]
          refine ⟨vp_in_nI (by omega) (by decide), fun c => bad (fun h => ?_), fun c => ⟨vp_in_nI (by omega) (by decide), fun c5 => ?_, fun c5 => bad (fun h => c5 ((ar_bool (by omega)).mpr h.2))⟩⟩
          · exact absurd h.1 (Int32.not_le.mpr c)
          · rw [← eo]
            exact go ⟨Int32.not_lt.mp c, (ar_bool (by omega)).mp c5⟩
        · have e0 : op = 0 := by
            have : opR op = 31 := (nI_eq (b := 31) (by omega) (by decide)).mp c31
            unfold opR at this; split at this <;> omega
          subst e0
          refine ⟨fun c => go ⟨nI_le (a := 0) (Nat.zero_le _) (by omega), c⟩, fun c => bad (fun h => c h.2)⟩
      cases d with
      | zero =>
        obtain ⟨q1, q2⟩ := atomc hRd.1 (wfA hRd.1)
        exact ⟨fun c => (q1 c).elim, fun _ => q2⟩
      | succ d =>
        rcases hRd with h | ⟨l, h5, h6, h7⟩ | ⟨n9, c9, h5, h6, h7, h8, h9⟩
        · obtain ⟨q1, q2⟩ := atomc h.1 (wfA h.1)
          exact ⟨fun c => (q1 c).elim, fun _ => q2⟩
        · cases l with
          | nil => exact absurd rfl h5
          | cons i l =>
            obtain ⟨⟨c, ev⟩, h6'⟩ := h6
            have hin := (Inc_in (RdV_le d) _ lo hi h7).2
            have hlen := Inc_len (RdV_le d) _ lo hi h7
            have hlen : lo + (l.length + 1) ≤ hi := hlen
            have hir := hin i (by simp)
            refine ⟨fun _ => main d i c l rfl ev ⟨h6', fun x hx => by have := hin x (by simp [hx]); omega, (hR.2 i (by omega)).2.2.2⟩ (by omega) (fun s e => RdV_sym h7.1 e) (fun _ a b e => ?_) ?_, fun c4 => by rw [ev] at c4; exact absurd rfl c4⟩
            · subst e
              have := hin a (by simp)
              have h8 := h7.2.1
              exact RdV_lb h8 (by omega) (by omega) (hR.2 a (by omega)).2.2.1
            · obtain ⟨lo1, b1, b2, b3⟩ := Inc_wfP h7 (opV nam (rc i).1)
              have hin1 := (Inc_in (RdV_le d) _ lo1 hi b3).2
              obtain ⟨es1, s1, s2, s3, s4⟩ := Inc_pe (rn := rn) _ lo1 hi b3 hhi (fun x hx => (hR.2 x (by have := hin1 x hx; omega)).2.2.1)
              exact ⟨es1, s1, s2, by omega, s4⟩
        · have hle := RdV_le d _ _ _ h8
          refine ⟨fun _ => main d (n9 + 1) c9 [n9] rfl h5 ⟨h7, fun x hx => ?_, (hR.2 (n9 + 1) (by omega)).2.2.2⟩ (by show 1 + 1 ≤ hi - lo; omega) (fun s e => ?_) (fun e => ?_) ?_, fun c4 => by rw [h5] at c4; exact absurd rfl c4⟩
          · simp at hx; omega
          · rw [h6] at e; cases e; have := hN.1; omega
          · rw [h6, op_q hN] at e; exact absurd e (by decide)
          · rw [h6, op_q hN]
            exact ⟨[], rfl, fun e he => (by cases he), Nat.zero_le _, fun e he => (by cases he)⟩
theorem r_wf {post : Int32 → St → StL → Prop} {v : Va} {d lo hi n : Nat} (hR : RdM g0 rc rn) (hrn : rn ≤ 900) (hN : NamOK sy nam) (hO : ∀ s, s < sy → g0 1 s = nI (opR (opx (nam s)))) (hT : ∀ i, i < 31 → g0 4 i = FEWL.getD (i + 1) 0 ∧ g0 5 i = (if MOSTL.getD (i + 1) 0 = 1000000 then 9999 else MOSTL.getD (i + 1) 0)) (hRd : RdV rc sy d v lo hi) (hhi : hi ≤ rn) (hv : vok v) (hn : 10000 ≤ n) (k1 : WFE rc nam d v → ∀ g1, (∀ c, c ≠ 22 → g1 c = g0 c) → post 1 g1 k) (k0 : ¬ WFE rc nam d v → ∀ g1, (∀ c, c ≠ 22 → g1 c = g0 c) → post 0 g1 k) : V_X12_wellFormed n (enc v) g0 k post := by
  unfold V_X12_wellFormed
  refine eqI ⟨vp_in_nI (n := 0) (by decide) (by decide), eqI ?_⟩
  have hP : PdR g0 (up g0 22 0 (enc v)) [v] := PdR_push (pd := []) ⟨fun _ _ => rfl, fun t ht => absurd ht (Nat.not_lt_zero _)⟩
  refine r_wf9 (k := k) (post := post) hR hrn hN hO hT ((hi - lo) + 1) [(d, v, lo, hi)] n _ (Nat.le_refl _) (by omega) (by omega) (fun e he => ?_) hP (fun h g1 h1 => k1 (h _ List.mem_cons_self) g1 h1.1) (fun h g1 h1 => k0 (fun h5 => h (fun e he => ?_)) g1 h1.1)
  · rw [List.mem_singleton] at he; subst he; exact ⟨hRd, hhi, hv⟩
  · rw [List.mem_singleton] at he; subst he; exact h5
end WF9
