-- ===== compiling in the class: lists of parts =====
section CE
variable (N n : Nat) (φ : Nat → Nat) (rc : Nat → Va × Va) (K : Nat → Nat → Prop) (C1 : Nat → Prop) (sy : Nat) (nam : Nat → List Nat) (S : Nat → Prop) (fs rn : Nat) (G0 : SG)
/-- within compiling: the scopes, and where the next word goes -/
def CoG (VS : List Va) (p : Nat) (G : SG) : Prop := (∀ o, o ≠ 7 → o ≠ 8 → G o = G0 o) ∧ StkR (G 8) (VS.map (cw φ)) ∧ G 7 0 0 = nI p
/-- the code from p on is what F says, whatever else is told of it later -/
def CoK (VS : List Va) (G : SG) (F : (Nat → Int32) → (Nat → Nat) → Nat → Prop) (lo hi p bnd : Nat) (post : SG → Prop) : Prop :=
  ∀ (G1 : SG) (q : Nat) (e0 : Nat → Nat), CoG φ G0 VS q G1 → p ≤ q → q ≤ bnd → (∀ a, a < p → G1 7 1 a = G 7 1 a) → (∀ c1 ent1, (∀ a, p ≤ a → a < q → c1 a = G1 7 1 a) → (∀ i, lo ≤ i → i < hi → ent1 i = e0 i) → F c1 ent1 q) → post G1
def CoB (VS : List Va) (G : SG) (p : Nat) (post : SG → Prop) : Prop :=
  ∀ (G1 : SG) (q : Nat), CoG φ G0 VS q G1 → p ≤ q → q ≤ 1536 → (∀ a, a < p → G1 7 1 a = G 7 1 a) → post G1
def CoH : Prop := MemK (G0 2) rc K φ ∧ 2048 ≤ N ∧ N < 2 ^ 31 ∧ 3000 ≤ n ∧ NamOK sy nam ∧ G0 1 0 0 = nI sy ∧ (∀ s, s < sy → G0 1 3 s = nI (opx (nam s))) ∧ (∀ x, fs ≤ x → x < rn → rdv K (rc x).1 ∧ kV K (rc x).2) ∧ (∀ x, fs ≤ x → x < rn → (C1 x ↔ S x)) ∧ rn ≤ 800
def EvP (d : Nat) : Prop := ∀ (df dp : Nat) (v : Va) (lo hi p : Nat) (G : SG) (VS : List Va) (sc : List (List Nat)) (post : Int32 → SG → Prop),
  d + 2 ≤ df → dp + d ≤ 12 → CdE rc sy nam S d v lo hi → rdv K v → fs ≤ lo → hi ≤ rn → CoG φ G0 VS p G → p + 8 * (hi - lo) + 3 ≤ 1500 → VS.length + d ≤ 12 → ScR rc K VS sc →
  (WFE rc nam d v → CoK φ G0 VS G (fun c1 ent1 q => AtE rc nam K C1 c1 ent1 (d + 1) sc v p q) lo hi p (p + 8 * (hi - lo) + 3) (post 1)) → (¬ WFE rc nam d v → CoB φ G0 VS G p (post 0)) → V_X1_evaluation N n df (cw φ v) (nI dp) G post
end CE
section CE2
variable {N n : Nat} {φ : Nat → Nat} {rc : Nat → Va × Va} {K : Nat → Nat → Prop} {C1 : Nat → Prop} {sy : Nat} {nam : Nat → List Nat} {S : Nat → Prop} {fs rn : Nat} {G0 G : SG} {VS : List Va} {p : Nat}
theorem CoG.g2 (h : CoG φ G0 VS p G) : G 2 = G0 2 := h.1 2 (by decide) (by decide)
theorem CoG.g1 (h : CoG φ G0 VS p G) : G 1 = G0 1 := h.1 1 (by decide) (by decide)
theorem rdv_kV {v : Va} (h : rdv K v) : kV K v := by
  intro i c e
  subst e
  rcases h with h | ⟨i1, c1, e, hk, -⟩
  · exact h.elim
  · cases e; exact hk
theorem e_car {x c : Nat} {P : Int32 → SG → Prop} (hH : CoH N n φ rc K C1 sy nam S fs rn G0) (hG : CoG φ G0 VS p G) (hk : K x c) (k : P (cw φ (rc x).1) G) : V_X2_car N (cw φ (vrd x c)) (G 2) (fun r u => ∀ g : SG, g = uo G 2 u → P r g) := by
  obtain ⟨hM, h1, h2, -⟩ := hH
  obtain ⟨a1, a2, a3⟩ := hM x c hk
  refine c_car1 a1 h1 h2 (eqI ?_)
  rw [show uo G 2 (G 2) = G from uo_id rfl, hG.g2, a2]; exact k
theorem e_cdr {x c : Nat} {P : Int32 → SG → Prop} (hH : CoH N n φ rc K C1 sy nam S fs rn G0) (hG : CoG φ G0 VS p G) (hk : K x c) (k : P (cw φ (rc x).2) G) : V_X2_cdr N (cw φ (vrd x c)) (G 2) (fun r u => ∀ g : SG, g = uo G 2 u → P r g) := by
  obtain ⟨hM, h1, h2, -⟩ := hH
  obtain ⟨a1, a2, a3⟩ := hM x c hk
  refine c_cdr1 a1 h1 h2 (eqI ?_)
  rw [show uo G 2 (G 2) = G from uo_id rfl, hG.g2, a3]; exact k
/-- a list whose cells lie within the form -/
def inF (rc : Nat → Va × Va) (K : Nat → Nat → Prop) (fs rn : Nat) (v : Va) (l : List Nat) : Prop := Lst rc v l ∧ kV K v ∧ l.length < 900 ∧ ∀ x ∈ l, fs ≤ x ∧ x < rn
theorem e_len {v : Va} {l : List Nat} {P : Int32 → SG → Prop} (hH : CoH N n φ rc K C1 sy nam S fs rn G0) (hG : CoG φ G0 VS p G) (hl : inF rc K fs rn v l) (k : P (nI l.length) G) : V_X2_listLength N n (cw φ v) (G 2) (fun r u => ∀ g : SG, g = uo G 2 u → P r g) := by
  obtain ⟨hM, h1, h2, h3, h4, h5, h6, h7, -⟩ := hH
  obtain ⟨a1, a2, a3, a4⟩ := hl
  refine c_len (by rw [hG.g2]; exact hM) h1 h2 (by omega) a3 a1 a2 (fun x hx => (h7 x (a4 x hx).1 (a4 x hx).2).2) (eqI ?_)
  rw [show uo G 2 (G 2) = G from uo_id rfl]; exact k
theorem inF_tl {x : Nat} {l : List Nat} {v : Va} (hH : CoH N n φ rc K C1 sy nam S fs rn G0) (h : inF rc K fs rn v (x :: l)) : inF rc K fs rn (rc x).2 l := by
  obtain ⟨a1, a2, a3, a4⟩ := h
  have a3 : l.length + 1 < 900 := a3
  exact ⟨a1.2, (hH.2.2.2.2.2.2.2.1 x (a4 x (by simp)).1 (a4 x (by simp)).2).2, by omega, fun y hy => a4 y (by simp [hy])⟩
theorem inF_hd {x : Nat} {l : List Nat} {v : Va} (h : inF rc K fs rn v (x :: l)) : ∃ c, v = vrd x c ∧ K x c ∧ fs ≤ x ∧ x < rn := by
  obtain ⟨⟨⟨c, e⟩, -⟩, a2, a3, a4⟩ := h
  exact ⟨c, e, a2 x c e, a4 x (by simp)⟩
theorem e_emit {w : Int32} {post : SG → Prop} (hG : CoG φ G0 VS p G) (h : p < 1536) (k : ∀ G1 : SG, CoG φ G0 VS (p + 1) G1 → G1 7 1 = upd (G 7 1) p w → post G1) : V_X1_emit N w G post :=
  c_emit hG.2.2 h (fun G1 a b c => k G1 ⟨fun o h7 h8 => (a o h7).trans (hG.1 o h7 h8), by rw [a 8 (by decide)]; exact hG.2.1, b⟩ c)
theorem e_emit2 {w x : Int32} {post : SG → Prop} (hG : CoG φ G0 VS p G) (h : p + 1 < 1536) (k : ∀ G1 : SG, CoG φ G0 VS (p + 2) G1 → G1 7 1 = upd (upd (G 7 1) p w) (p + 1) x → post G1) : V_X1_emit_ N w x G post :=
  c_emit2 hG.2.2 h (fun G1 a b c => k G1 ⟨fun o h7 h8 => (a o h7).trans (hG.1 o h7 h8), by rw [a 8 (by decide)]; exact hG.2.1, b⟩ c)
theorem e_emitA {w : Int32} {post : SG → Prop} (hG : CoG φ G0 VS p G) (h : p ≤ 1536) (k : CoB φ G0 VS G p post) : V_X1_emit N w G post :=
  c_emitA hG.2.2 h (fun G1 q a b c d e => k G1 q ⟨fun o h7 h8 => (a o h7).trans (hG.1 o h7 h8), by rw [a 8 (by decide)]; exact hG.2.1, b⟩ c d e)
theorem e_emit2A {w x : Int32} {post : SG → Prop} (hG : CoG φ G0 VS p G) (h : p ≤ 1536) (k : CoB φ G0 VS G p post) : V_X1_emit_ N w x G post :=
  c_emit2A hG.2.2 h (fun G1 q a b c d e => k G1 q ⟨fun o h7 h8 => (a o h7).trans (hG.1 o h7 h8), by rw [a 8 (by decide)]; exact hG.2.1, b⟩ c d e)
theorem e_leap {w : Int32} {post : Int32 → SG → Prop} (hG : CoG φ G0 VS p G) (h : p + 1 < 1536) (k : ∀ G1 : SG, CoG φ G0 VS (p + 2) G1 → G1 7 1 = upd (upd (G 7 1) p w) (p + 1) 0 → post (nI (p + 1)) G1) : V_X1_leap N w G post :=
  c_leap hG.2.2 h (fun G1 a b c => k G1 ⟨fun o h7 h8 => (a o h7).trans (hG.1 o h7 h8), by rw [a 8 (by decide)]; exact hG.2.1, b⟩ c)
theorem e_land {a : Nat} {post : SG → Prop} (hG : CoG φ G0 VS p G) (h : a < 1536) (k : ∀ G1 : SG, CoG φ G0 VS p G1 → G1 7 1 = upd (G 7 1) a (nI p) → post G1) : V_X1_land N (nI a) G post :=
  c_land hG.2.2 h (fun G1 a b c => k G1 ⟨fun o h7 h8 => (a o h7).trans (hG.1 o h7 h8), by rw [a 8 (by decide)]; exact hG.2.1, b⟩ c)
theorem c_evsL {d df dp total : Nat} {sc : List (List Nat)} {post : Int32 → SG → Prop} (hE : EvP N n φ rc K C1 sy nam S fs rn G0 d) (hH : CoH N n φ rc K C1 sy nam S fs rn G0) (hdf : d + 2 ≤ df) (hdp : dp + d ≤ 12) (hVS : VS.length + d ≤ 12) (hSc : ScR rc K VS sc) (ht : total < 900) :
    ∀ (l : List Nat) (n1 m : Nat) (v : Va) (lo hi p : Nat) (G : SG), l.length < n1 → m + l.length = total → inF rc K fs rn v l → Inc rc (CdE rc sy nam S d) l lo hi → fs ≤ lo → hi ≤ rn → CoG φ G0 VS p G → p + 8 * (hi - lo) ≤ 1500 → ((∀ x ∈ l, WFE rc nam d (rc x).1) → CoK φ G0 VS G (fun c1 ent1 q => AtL rc (AtE rc nam K C1 c1 ent1 (d + 1) sc) l p q) lo hi p (p + 8 * (hi - lo)) (post 1)) → (¬ (∀ x ∈ l, WFE rc nam d (rc x).1) → CoB φ G0 VS G p (post 0)) → V_X1_evaluations_15 N (fun a b G p => V_X1_evaluation N n df a b G p) post n1 (nI dp) (nI total) (cw φ v) (nI m) G
  | [], n1, m, v, lo, hi, p, G, h1, h2, h3, h4, _, _, hG, _, k1, _ => by
    obtain ⟨n1, rfl⟩ : ∃ n', n1 = n' + 1 := ⟨n1 - 1, by omega⟩
    have h2 : m + 0 = total := h2
    unfold V_X1_evaluations_15
    exact ⟨fun _ => k1 (fun x hx => (by cases hx)) G p (fun _ => 0) hG (Nat.le_refl _) (by omega) (fun _ _ => rfl) (fun _ _ _ _ => rfl), fun c => absurd ((nI_leI (by omega) (by omega)).mpr (by omega)) c⟩
  | x :: l, n1, m, v, lo, hi, p, G, h1, h2, h3, h4, h5, h6, hG, h8, k1, k0 => by
    obtain ⟨n1, rfl⟩ : ∃ n', n1 = n' + 1 := ⟨n1 - 1, by omega⟩
    obtain ⟨c, rfl, hk, hx1, hx2⟩ := inF_hd h3
    have h2 : m + (l.length + 1) = total := h2
    have h1 : l.length + 1 < n1 + 1 := h1
    have hle := CdE_le d _ _ _ h4.1
    have hlt := Inc_len (CdE_le d) l (x + 1) hi h4.2
    have hcell := hH.2.2.2.2.2.2.2.1 x hx1 hx2
    unfold V_X1_evaluations_15
    refine ⟨fun c => absurd ((nI_leI (by omega) (by omega)).mp c) (by omega), fun _ => e_car hH hG hk ?_⟩
    refine hE df dp (rc x).1 lo x p G VS sc _ hdf hdp h4.1 hcell.1 h5 (by omega) hG (by omega) hVS hSc (fun hw => ?_) (fun hw => ?_)
    · intro G1 q1 e1 hG1 hp1 hq1 hs1 hA1
      refine ⟨fun _ => e_cdr hH hG1 hk ?_, fun c => absurd c (by decide)⟩
      rw [nI_1]
      refine eqI (c_evsL hE hH hdf hdp hVS hSc ht l n1 (m + 1) (rc x).2 (x + 1) hi q1 G1 (by omega) (by omega) (inF_tl hH h3) h4.2 (by omega) h6 hG1 (by omega) (fun hws => ?_) (fun hws => ?_))
      · intro G2 q2 e2 hG2 hp2 hq2 hs2 hA2
        refine k1 (fun y hy => ?_) G2 q2 (fun y => if y < x then e1 y else e2 y) hG2 (by omega) (by omega) (fun a ha => (hs2 a (by omega)).trans (hs1 a ha)) (fun c1 ent1 hc he => ⟨q1, hA1 c1 ent1 (fun a ha hb => (hc a ha (by omega)).trans (hs2 a hb)) (fun i hi1 hi2 => by rw [he i hi1 (by omega)]; exact if_pos hi2), hA2 c1 ent1 (fun a ha hb => hc a (by omega) hb) (fun i hi1 hi2 => by rw [he i (by omega) hi2]; exact if_neg (by omega))⟩)
        rcases List.mem_cons.mp hy with e | e
        · rw [e]; exact hw
        · exact hws y e
      · intro G2 q2 hG2 hp2 hq2 hs2
        exact k0 (fun h => hws (fun y hy => h y (by simp [hy]))) G2 q2 hG2 (by omega) hq2 (fun a ha => (hs2 a (by omega)).trans (hs1 a ha))
    · intro G1 q1 hG1 hp1 hq1 hs1
      exact ⟨fun c => absurd rfl c, fun _ => k0 (fun h => hw (h x (by simp))) G1 q1 hG1 hp1 hq1 hs1⟩
theorem c_evs {d df dp lo hi : Nat} {v : Va} {l : List Nat} {sc : List (List Nat)} {post : Int32 → SG → Prop} (hE : EvP N n φ rc K C1 sy nam S fs rn G0 d) (hH : CoH N n φ rc K C1 sy nam S fs rn G0) (hdf : d + 2 ≤ df) (hdp : dp + d ≤ 12) (hVS : VS.length + d ≤ 12) (hSc : ScR rc K VS sc) (h3 : inF rc K fs rn v l) (h4 : Inc rc (CdE rc sy nam S d) l lo hi) (h5 : fs ≤ lo) (h6 : hi ≤ rn) (hG : CoG φ G0 VS p G) (h8 : p + 8 * (hi - lo) ≤ 1500) (k1 : (∀ x ∈ l, WFE rc nam d (rc x).1) → CoK φ G0 VS G (fun c1 ent1 q => AtL rc (AtE rc nam K C1 c1 ent1 (d + 1) sc) l p q) lo hi p (p + 8 * (hi - lo)) (post 1)) (k0 : ¬ (∀ x ∈ l, WFE rc nam d (rc x).1) → CoB φ G0 VS G p (post 0)) : V_X1_evaluations N n (fun a b G p => V_X1_evaluation N n df a b G p) (cw φ v) (nI dp) G post := by
  unfold V_X1_evaluations
  have hn := hH.2.2.2.1
  have hl := h3.2.2.1
  exact e_len hH hG h3 (eqI (c_evsL hE hH hdf hdp hVS hSc hl l n 0 v lo hi p G (by omega) (by omega) h3 h4 h5 h6 hG h8 k1 k0))
theorem c_b42 {d df dp total x c lo m n1 : Nat} {sc : List (List Nat)} {K25 : Int32 → Int32 → Int32 → Int32 → SG → Prop} {post : Int32 → SG → Prop} (hE : EvP N n φ rc K C1 sy nam S fs rn G0 d) (hH : CoH N n φ rc K C1 sy nam S fs rn G0) (hdf : d + 2 ≤ df) (hdp : dp + d ≤ 12) (hVS : VS.length + d ≤ 12) (hSc : ScR rc K VS sc) (hk : K x c) (hx1 : fs ≤ x) (hx2 : x < rn) (h4 : CdE rc sy nam S d (rc x).1 lo x) (h5 : fs ≤ lo) (hG : CoG φ G0 VS p G) (h8 : p + 8 * (x - lo) + 3 ≤ 1500)
    (k1 : WFE rc nam d (rc x).1 → CoK φ G0 VS G (fun c1 ent1 q => AtE rc nam K C1 c1 ent1 (d + 1) sc (rc x).1 p q) lo x p (p + 8 * (x - lo) + 3) (fun G1 => K25 (nI dp) (nI total) (cw φ (rc x).2) (nI (m + 1)) G1)) (k0 : ¬ WFE rc nam d (rc x).1 → CoB φ G0 VS G p (post 0)) : V_X1_body_42 N (fun a b G p => V_X1_evaluation N n df a b G p) K25 post n1 (nI dp) (nI total) (cw φ (vrd x c)) (nI m) G := by
  have hcell := hH.2.2.2.2.2.2.2.1 x hx1 hx2
  unfold V_X1_body_42
  refine e_car hH hG hk ?_
  refine hE df dp (rc x).1 lo x p G VS sc _ hdf hdp h4 hcell.1 h5 (by omega) hG h8 hVS hSc (fun hw => ?_) (fun hw => ?_)
  · intro G1 q1 e1 hG1 hp1 hq1 hs1 hA1
    refine ⟨fun _ => e_cdr hH hG1 hk ?_, fun c => absurd c (by decide)⟩
    rw [nI_1]
    exact eqI (k1 hw G1 q1 e1 hG1 hp1 hq1 hs1 hA1)
  · intro G1 q1 hG1 hp1 hq1 hs1
    exact ⟨fun c => absurd rfl c, fun _ => k0 hw G1 q1 hG1 hp1 hq1 hs1⟩
theorem c_bdR {d df dp total : Nat} {sc : List (List Nat)} {post : Int32 → SG → Prop} (hE : EvP N n φ rc K C1 sy nam S fs rn G0 d) (hH : CoH N n φ rc K C1 sy nam S fs rn G0) (hdf : d + 2 ≤ df) (hdp : dp + d ≤ 12) (hVS : VS.length + d ≤ 12) (hSc : ScR rc K VS sc) (ht : total < 900) :
    ∀ (l : List Nat) (n1 m : Nat) (v : Va) (lo hi p : Nat) (G : SG), 0 < m → l.length < n1 → m + l.length = total → inF rc K fs rn v l → Inc rc (CdE rc sy nam S d) l lo hi → fs ≤ lo → hi ≤ rn → CoG φ G0 VS p G → p + 8 * (hi - lo) ≤ 1500 → ((∀ x ∈ l, WFE rc nam d (rc x).1) → CoK φ G0 VS G (fun c1 ent1 q => AtR rc c1 (AtE rc nam K C1 c1 ent1 (d + 1) sc) l p q) lo hi p (p + 8 * (hi - lo)) (post 1)) → (¬ (∀ x ∈ l, WFE rc nam d (rc x).1) → CoB φ G0 VS G p (post 0)) → V_X1_body_25 N (fun a b G p => V_X1_evaluation N n df a b G p) post n1 (nI dp) (nI total) (cw φ v) (nI m) G
  | [], n1, m, v, lo, hi, p, G, h0, h1, h2, h3, h4, _, _, hG, _, k1, _ => by
    obtain ⟨n1, rfl⟩ : ∃ n', n1 = n' + 1 := ⟨n1 - 1, by omega⟩
    have h2 : m + 0 = total := h2
    unfold V_X1_body_25
    exact ⟨fun _ => k1 (fun x hx => (by cases hx)) G p (fun _ => 0) hG (Nat.le_refl _) (by omega) (fun _ _ => rfl) (fun _ _ _ _ => rfl), fun c => absurd ((nI_leI (by omega) (by omega)).mpr (by omega)) c⟩
  | x :: l, n1, m, v, lo, hi, p, G, h0, h1, h2, h3, h4, h5, h6, hG, h8, k1, k0 => by
    obtain ⟨n1, rfl⟩ : ∃ n', n1 = n' + 1 := ⟨n1 - 1, by omega⟩
    obtain ⟨c, rfl, hk, hx1, hx2⟩ := inF_hd h3
    have h2 : m + (l.length + 1) = total := h2
    have h1 : l.length + 1 < n1 + 1 := h1
    have hle := CdE_le d _ _ _ h4.1
    have hlt := Inc_len (CdE_le d) l (x + 1) hi h4.2
    unfold V_X1_body_25
    refine ⟨fun c => absurd ((nI_leI (by omega) (by omega)).mp c) (by omega), fun _ => ⟨fun c => absurd c (nI_nle h0 (by omega)), fun _ => ?_⟩⟩
    refine e_emit hG (by omega) (fun Ga hGa ca => ?_)
    have sa : ∀ a, a < p → Ga 7 1 a = G 7 1 a := fun a ha => by rw [ca, updN _ _ (by omega)]
    have sp : Ga 7 1 p = 7 := by rw [ca, updE]
    refine c_b42 hE hH hdf hdp hVS hSc hk hx1 hx2 h4.1 h5 hGa (by omega) (fun hw => ?_) (fun hw => ?_)
    · intro G1 q1 e1 hG1 hp1 hq1 hs1 hA1
      refine c_bdR hE hH hdf hdp hVS hSc ht l n1 (m + 1) (rc x).2 (x + 1) hi q1 G1 (by omega) (by omega) (by omega) (inF_tl hH h3) h4.2 (by omega) h6 hG1 (by omega) (fun hws => ?_) (fun hws => ?_)
      · intro G2 q2 e2 hG2 hp2 hq2 hs2 hA2
        refine k1 (fun y hy => ?_) G2 q2 (fun y => if y < x then e1 y else e2 y) hG2 (by omega) (by omega) (fun a ha => ((hs2 a (by omega)).trans (hs1 a (by omega))).trans (sa a ha)) (fun c1 ent1 hc he => ⟨?_, q1, hA1 c1 ent1 (fun a ha hb => (hc a (by omega) (by omega)).trans (hs2 a hb)) (fun i hi1 hi2 => by rw [he i hi1 (by omega)]; exact if_pos hi2), hA2 c1 ent1 (fun a ha hb => hc a (by omega) hb) (fun i hi1 hi2 => by rw [he i (by omega) hi2]; exact if_neg (by omega))⟩)
        · rcases List.mem_cons.mp hy with e | e
          · rw [e]; exact hw
          · exact hws y e
        · rw [hc p (Nat.le_refl _) (by omega), hs2 p (by omega), hs1 p (by omega), sp]
      · intro G2 q2 hG2 hp2 hq2 hs2
        exact k0 (fun h => hws (fun y hy => h y (by simp [hy]))) G2 q2 hG2 (by omega) hq2 (fun a ha => ((hs2 a (by omega)).trans (hs1 a (by omega))).trans (sa a ha))
    · intro G1 q1 hG1 hp1 hq1 hs1
      exact k0 (fun h => hw (h x (by simp))) G1 q1 hG1 (by omega) hq1 (fun a ha => (hs1 a (by omega)).trans (sa a ha))
theorem c_bd {d df dp lo hi : Nat} {v : Va} {l : List Nat} {sc : List (List Nat)} {post : Int32 → SG → Prop} (hE : EvP N n φ rc K C1 sy nam S fs rn G0 d) (hH : CoH N n φ rc K C1 sy nam S fs rn G0) (hdf : d + 2 ≤ df) (hdp : dp + d ≤ 12) (hVS : VS.length + d ≤ 12) (hSc : ScR rc K VS sc) (h3 : inF rc K fs rn v l) (h4 : Inc rc (CdE rc sy nam S d) l lo hi) (h5 : fs ≤ lo) (h6 : hi ≤ rn) (hG : CoG φ G0 VS p G) (h8 : p + 8 * (hi - lo) ≤ 1500) (k1 : (∀ x ∈ l, WFE rc nam d (rc x).1) → CoK φ G0 VS G (fun c1 ent1 q => AtB rc c1 (AtE rc nam K C1 c1 ent1 (d + 1) sc) l p q) lo hi p (p + 8 * (hi - lo) + 2) (post 1)) (k0 : ¬ (∀ x ∈ l, WFE rc nam d (rc x).1) → CoB φ G0 VS G p (post 0)) : V_X1_body N n (fun a b G p => V_X1_evaluation N n df a b G p) (cw φ v) (nI dp) G post := by
  unfold V_X1_body
  have hn := hH.2.2.2.1
  have hl := h3.2.2.1
  refine e_len hH hG h3 ?_
  obtain ⟨n, rfl⟩ : ∃ n', n = n' + 1 := ⟨n - 1, by omega⟩
  cases l with
  | nil =>
    refine ⟨fun c => absurd rfl c, fun _ => e_emit2 hG (by omega) (fun G1 hG1 c1 => eqI ?_)⟩
    unfold V_X1_body_25
    refine ⟨fun _ => k1 (fun x hx => (by cases hx)) G1 (p + 2) (fun _ => 0) hG1 (by omega) (by omega) (fun a ha => by rw [c1, updN _ _ (by omega), updN _ _ (by omega)]) (fun c2 ent1 hc _ => ⟨?_, ?_, rfl⟩), fun c => absurd (Int32.le_refl _) c⟩
    · rw [hc p (by omega) (by omega), c1, updN _ _ (by omega), updE]
    · rw [hc (p + 1) (by omega) (by omega), c1, updE]
  | cons x l =>
    have hl : l.length + 1 < 900 := hl
    obtain ⟨c, rfl, hk, hx1, hx2⟩ := inF_hd h3
    have hle := CdE_le d _ _ _ h4.1
    have hlt := Inc_len (CdE_le d) l (x + 1) hi h4.2
    refine ⟨fun _ => eqI ?_, fun c => absurd ((nI_eq (a := l.length + 1) (b := 0) (by omega) (by decide)).mp c) (by omega)⟩
    unfold V_X1_body_25
    refine ⟨fun c => absurd ((nI_leI (a := l.length + 1) (b := 0) (by omega) (by decide)).mp c) (by omega), fun _ => ⟨fun _ => ?_, fun c => absurd (Int32.le_refl _) c⟩⟩
    refine c_b42 (m := 0) hE hH hdf hdp hVS hSc hk hx1 hx2 h4.1 h5 hG (by omega) (fun hw => ?_) (fun hw => ?_)
    · intro G1 q1 e1 hG1 hp1 hq1 hs1 hA1
      refine c_bdR hE hH hdf hdp hVS hSc (total := l.length + 1) hl l n 1 (rc x).2 (x + 1) hi q1 G1 (by omega) (by omega) (by omega) (inF_tl hH h3) h4.2 (by omega) h6 hG1 (by omega) (fun hws => ?_) (fun hws => ?_)
      · intro G2 q2 e2 hG2 hp2 hq2 hs2 hA2
        refine k1 (fun y hy => ?_) G2 q2 (fun y => if y < x then e1 y else e2 y) hG2 (by omega) (by omega) (fun a ha => (hs2 a (by omega)).trans (hs1 a ha)) (fun c1 ent1 hc he => ⟨q1, hA1 c1 ent1 (fun a ha hb => (hc a ha (by omega)).trans (hs2 a hb)) (fun i hi1 hi2 => by rw [he i hi1 (by omega)]; exact if_pos hi2), hA2 c1 ent1 (fun a ha hb => hc a (by omega) hb) (fun i hi1 hi2 => by rw [he i (by omega) hi2]; exact if_neg (by omega))⟩)
        rcases List.mem_cons.mp hy with e | e
        · rw [e]; exact hw
        · exact hws y e
      · intro G2 q2 hG2 hp2 hq2 hs2
        exact k0 (fun h => hws (fun y hy => h y (by simp [hy]))) G2 q2 hG2 (by omega) hq2 (fun a ha => (hs2 a (by omega)).trans (hs1 a ha))
    · intro G1 q1 hG1 hp1 hq1 hs1
      exact k0 (fun h => hw (h x (by simp))) G1 q1 hG1 hp1 hq1 hs1
end CE2
