-- ===== well-formed =====
def WFO (rc : Nat → Va × Va) (F : Va → Prop) (i : Nat) (l : List Nat) : Nat → Prop
  | 0 => l.length ≤ 4 ∧ ∀ x ∈ i :: l, F (rc x).1
  | 1 => l.length = 1
  | 2 => 2 ≤ l.length ∧ l.length ≤ 3 ∧ ∀ x ∈ l, F (rc x).1
  | 3 => ∀ x ∈ l, F (rc x).1
  | 4 => ∃ a b s, l = [a, b] ∧ (rc a).1 = vsym s ∧ F (rc b).1
  | 5 => l ≠ [] ∧ ∀ x ∈ l, F (rc x).1
  | 6 => ∃ a b, l = a :: b ∧ ParOK rc (rc a).1 ∧ ∀ x ∈ b, F (rc x).1
  | 7 => l ≠ [] ∧ ∀ x ∈ l, F (rc x).1
  | 8 => l.length = 2 ∧ ∀ x ∈ l, F (rc x).1
  | op => FEWL.getD op 0 ≤ nI l.length ∧ nI l.length ≤ MOSTL.getD op 0 ∧ ∀ x ∈ l, F (rc x).1
/-- a form that can be compiled -/
def WFE (rc : Nat → Va × Va) (nam : Nat → List Nat) : Nat → Va → Prop
  | 0, _ => True
  | d + 1, v => match v with
    | some (.inr (.inr (.inl (i, _)))) => ∃ l, Lst rc (rc i).2 l ∧ WFO rc (WFE rc nam d) i l (opV nam (rc i).1)
    | _ => True
section WFM
variable {g : St} {k : StL} {rc : Nat → Va × Va} {rn : Nat}
theorem r_car1 {i c : Nat} {post : Int32 → St → StL → Prop} (hR : RdM g rc rn) (hi : i < rn) (hrn : rn ≤ 1100) (hc : c < 1024) (kk : post (enc (rc i).1) g k) : V_X12_car (enc (vrd i c)) g k post := by
  have hv : vok (vrd i c) := ⟨by omega, hc⟩
  unfold V_X12_car
  refine r_load hv ⟨fun c => absurd ((nI_leI (a := 2000) (b := i) (by decide) (by omega)).mp c) (by omega), fun _ => r_load hv ?_⟩
  have e : (nI (vld (vrd i c))).toNatClampNeg = i := nI_clamp (n := i) (by omega)
  rw [e, (hR.2 i hi).1]
  exact ⟨vp_in_nI (n := i) (by omega) (by decide), kk⟩
theorem r_cdr1 {i c : Nat} {post : Int32 → St → StL → Prop} (hR : RdM g rc rn) (hi : i < rn) (hrn : rn ≤ 1100) (hc : c < 1024) (kk : post (enc (rc i).2) g k) : V_X12_cdr (enc (vrd i c)) g k post := by
  have hv : vok (vrd i c) := ⟨by omega, hc⟩
  unfold V_X12_cdr
  refine r_load hv ⟨fun c => absurd ((nI_leI (a := 2000) (b := i) (by decide) (by omega)).mp c) (by omega), fun _ => r_load hv ?_⟩
  have e : (nI (vld (vrd i c))).toNatClampNeg = i := nI_clamp (n := i) (by omega)
  rw [e, (hR.2 i hi).2.1]
  exact ⟨vp_in_nI (n := i) (by omega) (by decide), kk⟩
/-- the list v of cells that lie below rn -/
def lbR (rc : Nat → Va × Va) (rn : Nat) (v : Va) (l : List Nat) : Prop := Lst rc v l ∧ (∀ x ∈ l, x < rn) ∧ vok v
theorem lbR_cons {v : Va} {x : Nat} {l : List Nat} (hR : RdM g rc rn) (h : lbR rc rn v (x :: l)) : ∃ c, v = vrd x c ∧ c < 1024 ∧ x < rn ∧ lbR rc rn (rc x).2 l := by
  obtain ⟨⟨⟨c, e⟩, h1⟩, h2, h3⟩ := h
  subst e
  exact ⟨c, rfl, h3.2, h2 x (by simp), h1, fun y hy => h2 y (by simp [hy]), (hR.2 x (h2 x (by simp))).2.2.2⟩
theorem rd_nnil {i c : Nat} (hi : i < 1100) : ¬ enc (vrd i c) = 1048576 := by
  intro h
  have := (nI_eq (a := 1048576 * 4 + i) (b := 1048576) (by omega) (by decide)).mp h
  omega
theorem r_partsL {post : Int32 → St → StL → Prop} (hR : RdM g rc rn) (hrn : rn ≤ 1100) : ∀ (l : List Nat) (n m : Nat) (v : Va), l.length < n → m + l.length < 1000000 → lbR rc rn v l → post (nI (m + l.length)) g k → V_X12_parts_4 post n (nI m) (enc v) g k
  | [], n, m, v, h1, _, h, kk => by
    obtain ⟨n, rfl⟩ : ∃ n', n = n' + 1 := ⟨n - 1, by omega⟩
    have e : v = vnil := h.1
    subst e
    unfold V_X12_parts_4
    exact ⟨fun _ => kk, fun c => absurd rfl c⟩
  | x :: l, n, m, v, h1, h2, h, kk => by
    obtain ⟨n, rfl⟩ : ∃ n', n = n' + 1 := ⟨n - 1, by omega⟩
    obtain ⟨c, rfl, hc, hx, hl⟩ := lbR_cons hR h
    have h1 : l.length + 1 < n + 1 := h1
    have h2 : m + (l.length + 1) < 1000000 := h2
    unfold V_X12_parts_4
    refine ⟨fun c => absurd c (rd_nnil (by omega)), fun _ => ?_⟩
    rw [nI_1]
    refine eqI (r_cdr1 hR hx hrn hc (r_partsL hR hrn l n (m + 1) _ (by omega) (by omega) hl ?_))
    rw [show m + 1 + l.length = m + (l.length + 1) by omega]
    exact kk
theorem r_parts {l : List Nat} {n : Nat} {v : Va} {post : Int32 → St → StL → Prop} (hR : RdM g rc rn) (hrn : rn ≤ 1100) (hn : l.length < n) (hl : l.length < 900000) (h : lbR rc rn v l) (kk : post (nI l.length) g k) : V_X12_parts n (enc v) g k post := by
  unfold V_X12_parts
  refine eqI (r_partsL hR hrn l n 0 v hn (by omega) h ?_)
  rw [Nat.zero_add]; exact kk
end WFM
