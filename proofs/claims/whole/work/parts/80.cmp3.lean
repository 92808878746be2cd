section CM3
variable {N : Nat} {G : SG} {rc : Nat → Va × Va} {K : Nat → Nat → Prop} {φ : Nat → Nat}
theorem Lst_uni : ∀ (l l1 : List Nat) (v : Va), Lst rc v l → Lst rc v l1 → l = l1
  | [], [], _, _, _ => rfl
  | [], x :: l1, v, h, h1 => by
    have h : v = vnil := h
    obtain ⟨⟨c, e⟩, -⟩ := h1
    rw [h] at e; cases e
  | x :: l, [], v, h, h1 => by
    have h1 : v = vnil := h1
    obtain ⟨⟨c, e⟩, -⟩ := h
    rw [h1] at e; cases e
  | x :: l, y :: l1, v, h, h1 => by
    obtain ⟨⟨c, e⟩, h2⟩ := h
    obtain ⟨⟨d, e1⟩, h3⟩ := h1
    rw [e] at e1
    cases e1
    rw [Lst_uni l l1 _ h2 h3]
def ParOK (rc : Nat → Va × Va) (v : Va) : Prop := ∃ l, Lst rc v l ∧ l.length ≤ 4 ∧ difS rc l
theorem c_par {n : Nat} {v : Va} {post : Int32 → SG → Prop} (hM : MemK (G 2) rc K φ) (hN : 2048 ≤ N) (hN2 : N < 2 ^ 31) (hn : 1000 ≤ n) (hv : (∃ sy, sy ≤ 40 ∧ atm sy v ∧ v ≠ vnil) ∨ ∃ l, Lst rc v l ∧ l.length < 900 ∧ kV K v ∧ ∀ x ∈ l, kV K (rc x).2 ∧ rdv K (rc x).1) (k1 : ParOK rc v → post 1 G) (k0 : ¬ ParOK rc v → post 0 G) : V_X1_areParameters N n (cw φ v) G post := by
  unfold V_X1_areParameters
  rcases hv with ⟨sy, hy, ha, hnn⟩ | ⟨l, hL, hl, hk, hks⟩
  · have hno : ¬ ParOK rc v := by
      rintro ⟨l, hL, -⟩
      cases l with
      | nil => exact hnn hL
      | cons x l =>
        obtain ⟨⟨c, e⟩, -⟩ := hL
        rw [e] at ha; exact ha.elim
    refine c_lenA (by omega) ha hy (eqI ?_)
    rw [show uo G 2 (G 2) = G from uo_id rfl]
    refine ⟨fun c => ?_, fun _ => ⟨fun _ => k0 hno, fun c => absurd rfl c⟩⟩
    exfalso
    have h1 : cw φ v = wd 1 0 := c.trans wd_nil.symm
    rcases v with _ | m | t | w | w | w | w
    · exact hnn rfl
    · have ha : -32768 ≤ m ∧ m ≤ 32767 := ha
      have := (wd_inj (t := 2) (h := m) (by decide) (by decide) (by omega) (by omega) (by decide) (by decide)).mp h1
      exact absurd this.1 (by decide)
    · have ha : t < sy := ha
      have := (wd_inj (t := 3) (h := (t : Int)) (by decide) (by decide) (by omega) (by omega) (by decide) (by decide)).mp h1
      exact absurd this.1 (by decide)
    · exact ha.elim
    · exact ha.elim
    · exact ha.elim
    · exact ha.elim
  · refine c_len hM hN hN2 hn hl hL hk (fun x hx => (hks x hx).1) (eqI ?_)
    rw [show uo G 2 (G 2) = G from uo_id rfl]
    have big : ¬ l.length ≤ 4 → post 0 G := fun h => k0 (fun ⟨l1, h1, h2, _⟩ => h (by rw [Lst_uni l l1 v hL h1]; exact h2))
    have loop : l.length ≤ 4 → V_X1_areParameters_30 N post n (nI l.length) (cw φ v) 0 G := fun h4 =>
      c_parL hM hN hN2 h4 l n 0 v (by omega) (by omega) hL hk hks (fun hd => k1 ⟨l, hL, h4, hd⟩) (fun hd => k0 (fun ⟨l1, h1, _, h3⟩ => hd (by rw [Lst_uni l l1 v hL h1]; exact h3)))
    refine ⟨fun _ => ⟨fun c => eqI (loop ((nI_leI (b := 4) (by omega) (by decide)).mp c)), fun c => big (fun h => c (nI_le (b := 4) h (by decide)))⟩, fun c1 => ⟨fun c => ?_, fun _ => ⟨fun c => eqI (loop ((nI_leI (b := 4) (by omega) (by decide)).mp c)), fun c => big (fun h => c (nI_le (b := 4) h (by decide)))⟩⟩⟩
    have : l = [] := List.length_eq_zero_iff.mp ((nI_eq (b := 0) (by omega) (by decide)).mp c)
    subst this
    have e : v = vnil := hL
    rw [e] at c1
    exact absurd wd_nil c1
theorem fIx_find {s : Nat} : ∀ (l ps : List Nat), l.map (fun i => (rc i).1) = ps.map vsym → fIx rc s l = ps.findIdx? (fun x => x == s)
  | [], [], _ => rfl
  | [], p :: ps, h => by cases h
  | x :: l, [], h => by cases h
  | x :: l, p :: ps, h => by
    have h1 : (rc x).1 = vsym p := (List.cons.inj h).1
    have h2 : l.map (fun i => (rc i).1) = ps.map vsym := (List.cons.inj h).2
    show (if (rc x).1 = vsym s then some 0 else (fIx rc s l).map (fun i => i + 1)) = _
    rw [h1, fIx_find l ps h2, List.findIdx?_cons]
    by_cases e : p = s
    · subst e; simp
    · have hne : ¬ vsym p = vsym s := fun c => e (by cases c; rfl)
      rw [if_neg hne]
      have : (p == s) = false := by simpa using e
      rw [this]
      simp
/-- the scopes around: their lists of symbols -/
def ScR (rc : Nat → Va × Va) (K : Nat → Nat → Prop) : List Va → List (List Nat) → Prop
  | [], [] => True
  | v :: vs, ps :: sc => (∃ l, Lst rc v l ∧ l.map (fun i => (rc i).1) = ps.map vsym ∧ ps.length ≤ 4 ∧ kV K v ∧ ∀ x ∈ l, kV K (rc x).2 ∧ rdv K (rc x).1) ∧ ScR rc K vs sc
  | _, _ => False
theorem ScR_len : ∀ (vs : List Va) (sc : List (List Nat)), ScR rc K vs sc → vs.length = sc.length
  | [], [], _ => rfl
  | v :: vs, ps :: sc, h => by simp [ScR_len vs sc h.2]
  | [], _ :: _, h => h.elim
  | _ :: _, [], h => h.elim
theorem c_emF {s p : Nat} {x2 x3 : Int32} {post : SG → Prop} {VS : List Va} (hM : MemK (G 2) rc K φ) (hN : 2048 ≤ N) (hN2 : N < 2 ^ 31) (hs : s < 40) (h8 : StkR (G 8) (VS.map (cw φ))) (hV : VS.length ≤ 12) (hp : G 7 0 0 = nI p) (hp2 : p + 1 < 1536) :
    ∀ (vs : List Va) (sc : List (List Nat)) (n m : Nat), vs.length + 30 < n → VS.drop m = vs → m ≤ VS.length → ScR rc K vs sc → (∀ pl, loc sc s = some pl → ∀ G1 : SG, (∀ o, o ≠ 7 → G1 o = G o) → G1 7 0 0 = nI (p + 2) → G1 7 1 = upd (upd (G 7 1) p x3) (p + 1) (nI (4 * m + pl)) → post G1) → (loc sc s = none → ∀ G1 : SG, (∀ o, o ≠ 7 → G1 o = G o) → G1 7 0 0 = nI (p + 2) → G1 7 1 = upd (upd (G 7 1) p x2) (p + 1) (nI s) → post G1) → V_X1_emitFor_3 N post n (cw φ (vsym s)) x2 x3 (nI m) G
  | vs, sc, 0, m => fun h => absurd h (by omega)
  | vs, sc, n + 1, m => by
    intro h1 hd hm hS ks kn
    unfold V_X1_emitFor_3
    rw [h8.1, List.length_map]
    refine ⟨fun c => ?_, fun c => ?_⟩
    · have hge := (nI_leI (a := VS.length) (b := m) (by omega) (by omega)).mp c
      have e : vs = [] := by rw [← hd]; exact List.drop_eq_nil_of_le hge
      subst e
      cases sc with
      | cons _ _ => exact hS.elim
      | nil =>
        refine v_held (t := 3) (h := (s : Int)) (by decide) (by omega) (by omega) ?_
        rw [iI_nat]
        exact c_emit2 hp hp2 (kn rfl)
    · have hlt : m < VS.length := ltI hm (by omega) c
      rw [List.drop_eq_getElem_cons hlt] at hd
      cases vs with
      | nil => cases hd
      | cons v vs =>
        cases sc with
        | nil => exact hS.elim
        | cons ps sc =>
          have hv : VS[m] = v := (List.cons.inj hd).1
          have hd2 : VS.drop (m + 1) = vs := (List.cons.inj hd).2
          obtain ⟨⟨l, hL, hps, h4, hk, hks⟩, hS2⟩ := hS
          have hll : l.length = ps.length := by have := congrArg List.length hps; simpa using this
          refine v_peek h8 (by simpa using hlt) (by simpa using hV) (by decide) (eqI ?_)
          rw [show uo G 8 (G 8) = G from uo_id rfl]
          have hgd : (VS.map (cw φ)).getD m 0 = cw φ v := by
            rw [List.getD_eq_getElem?_getD, List.getElem?_map, List.getElem?_eq_getElem hlt, hv]; rfl
          rw [hgd]
          have h1 : (vs.length + 1) + 30 < n + 1 := h1
          have hf := fIx_find (s := s) l ps hps
          refine c_idx hM hN hN2 hs (by omega) (by omega) hL hk hks (fun hn => ⟨fun _ => eqI ?_, fun c => absurd (by decide) c⟩) (fun i hi hn => ⟨fun c => absurd c (nI_pos (by omega)), fun _ => ?_⟩)
          · rw [hf] at hn
            rw [nI_1]
            refine c_emF hM hN hN2 hs h8 hV hp hp2 vs sc n (m + 1) (by omega) hd2 hlt hS2 (fun pl e => ?_) (fun e => kn ?_)
            · have := ks (pl + 4) (by show (match ps.findIdx? (fun x => x == s) with | some i => some i | none => (loc sc s).map (fun q => q + 4)) = _; rw [hn, e]; rfl)
              rw [show 4 * (m + 1) + pl = 4 * m + (pl + 4) by omega]
              exact this
            · show (match ps.findIdx? (fun x => x == s) with | some i => some i | none => (loc sc s).map (fun q => q + 4)) = none
              rw [hn, e]; rfl
          · rw [hf] at hn
            have e4 : nI m * 4 + nI i = nI (4 * m + i) := by
              rw [← iI_nat, ← iI_nat, ← iI_nat, show (4 : Int32) = iI 4 from rfl, iI_mul, iI_add]
              congr 1
              omega
            rw [e4]
            exact c_emit2 hp hp2 (ks i (by show (match ps.findIdx? (fun x => x == s) with | some i => some i | none => (loc sc s).map (fun q => q + 4)) = _; rw [hn]))
end CM3
