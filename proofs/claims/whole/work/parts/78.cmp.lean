-- ===== compiling: the class's small steps =====
section CM
variable {N : Nat} {G : SG} {rc : Nat → Va × Va} {K : Nat → Nat → Prop} {φ : Nat → Nat}
theorem c_emit {p : Nat} {w : Int32} {post : SG → Prop} (hp : G 7 0 0 = nI p) (h : p < 1536) (k : ∀ G1 : SG, (∀ o, o ≠ 7 → G1 o = G o) → G1 7 0 0 = nI (p + 1) → G1 7 1 = upd (G 7 1) p w → post G1) : V_X1_emit N w G post := by
  unfold V_X1_emit
  rw [hp]
  refine ⟨fun c => absurd ((nI_leI (a := 1536) (b := p) (by decide) (by omega)).mp c) (by omega), fun _ => ⟨vp_in_nI h (by decide), eqI (eqI (k _ (fun o ho => ?_) ?_ ?_))⟩⟩
  · rw [uoN ho, uoN ho]
  · show (G 7) 0 0 + 1 = _
    rw [hp, nI_1]
  · rw [nI_clamp (by omega)]; rfl
/-- whether there is room or not -/
theorem c_emitA {p : Nat} {w : Int32} {post : SG → Prop} (hp : G 7 0 0 = nI p) (h : p ≤ 1536) (k : ∀ (G1 : SG) (q : Nat), (∀ o, o ≠ 7 → G1 o = G o) → G1 7 0 0 = nI q → p ≤ q → q ≤ 1536 → (∀ a, a < p → G1 7 1 a = G 7 1 a) → post G1) : V_X1_emit N w G post := by
  by_cases e : p < 1536
  · exact c_emit hp e (fun G1 a b c => k G1 (p + 1) a b (by omega) (by omega) (fun x hx => by rw [c, updN _ _ (by omega)]))
  · unfold V_X1_emit
    rw [hp]
    exact ⟨fun _ => k G p (fun _ _ => rfl) hp (Nat.le_refl _) h (fun _ _ => rfl), fun c => absurd ((nI_leI (a := 1536) (b := p) (by decide) (by omega)).mpr (by omega)) c⟩
theorem c_emit2 {p : Nat} {w x : Int32} {post : SG → Prop} (hp : G 7 0 0 = nI p) (h : p + 1 < 1536) (k : ∀ G1 : SG, (∀ o, o ≠ 7 → G1 o = G o) → G1 7 0 0 = nI (p + 2) → G1 7 1 = upd (upd (G 7 1) p w) (p + 1) x → post G1) : V_X1_emit_ N w x G post := by
  unfold V_X1_emit_
  refine c_emit hp (by omega) (fun G1 a b c => c_emit b (by omega) (fun G2 a2 b2 c2 => k G2 (fun o ho => (a2 o ho).trans (a o ho)) b2 (by rw [c2, c])))
theorem c_emit2A {p : Nat} {w x : Int32} {post : SG → Prop} (hp : G 7 0 0 = nI p) (h : p ≤ 1536) (k : ∀ (G1 : SG) (q : Nat), (∀ o, o ≠ 7 → G1 o = G o) → G1 7 0 0 = nI q → p ≤ q → q ≤ 1536 → (∀ a, a < p → G1 7 1 a = G 7 1 a) → post G1) : V_X1_emit_ N w x G post := by
  unfold V_X1_emit_
  refine c_emitA hp h (fun G1 q a b c d e => c_emitA b d (fun G2 q2 a2 b2 c2 d2 e2 => k G2 q2 (fun o ho => (a2 o ho).trans (a o ho)) b2 (by omega) d2 (fun x hx => (e2 x (by omega)).trans (e x hx))))
theorem c_leap {p : Nat} {w : Int32} {post : Int32 → SG → Prop} (hp : G 7 0 0 = nI p) (h : p + 1 < 1536) (k : ∀ G1 : SG, (∀ o, o ≠ 7 → G1 o = G o) → G1 7 0 0 = nI (p + 2) → G1 7 1 = upd (upd (G 7 1) p w) (p + 1) 0 → post (nI (p + 1)) G1) : V_X1_leap N w G post := by
  unfold V_X1_leap
  refine c_emit2 hp h (fun G1 a b c => ?_)
  rw [b, show nI (p + 2) - 1 = nI (p + 1) from nI_pred _]
  exact k G1 a b c
theorem c_land {p a : Nat} {post : SG → Prop} (hp : G 7 0 0 = nI p) (h : a < 1536) (k : ∀ G1 : SG, (∀ o, o ≠ 7 → G1 o = G o) → G1 7 0 0 = nI p → G1 7 1 = upd (G 7 1) a (nI p) → post G1) : V_X1_land N (nI a) G post := by
  unfold V_X1_land
  refine ⟨fun c => absurd c (nI_pos (by omega)), fun _ => ⟨fun c => absurd ((nI_leI (a := 1536) (b := a) (by decide) (by omega)).mp c) (by omega), fun _ => ⟨vp_in_nI h (by decide), eqI ?_⟩⟩⟩
  rw [hp, nI_clamp (by omega)]
  exact k _ (fun o ho => uoN ho) hp rfl
theorem c_car1 {h : St} {i c : Nat} {post : Int32 → St → Prop} (hc : c < 1024) (hN : 2048 ≤ N) (hN2 : N < 2 ^ 31) (k : post (h 1 (2 * c)) h) : V_X2_car N (cw φ (vrd i c)) h post := by
  unfold V_X2_car
  rw [cw_rd]
  refine v_tag (by decide) (by omega) (by omega) ⟨fun c => absurd rfl c, fun _ => v_held (by decide) (by omega) (by omega) ?_⟩
  rw [iI_nat]
  exact v_hat (by omega) hN2 k
theorem c_cdr1 {h : St} {i c : Nat} {post : Int32 → St → Prop} (hc : c < 1024) (hN : 2048 ≤ N) (hN2 : N < 2 ^ 31) (k : post (h 1 (2 * c + 1)) h) : V_X2_cdr N (cw φ (vrd i c)) h post := by
  unfold V_X2_cdr
  rw [cw_rd]
  refine v_tag (by decide) (by omega) (by omega) ⟨fun c => absurd rfl c, fun _ => v_held (by decide) (by omega) (by omega) ?_⟩
  rw [iI_nat, nI_1]
  exact v_hat (by omega) hN2 k
/-- memory has the kept cells; where a read cell lies is known -/
def MemK (h : St) (rc : Nat → Va × Va) (K : Nat → Nat → Prop) (φ : Nat → Nat) : Prop := ∀ i x, K i x → x < 1024 ∧ h 1 (2 * x) = cw φ (rc i).1 ∧ h 1 (2 * x + 1) = cw φ (rc i).2
def kV (K : Nat → Nat → Prop) (v : Va) : Prop := ∀ i c, v = vrd i c → K i c
/-- an atom that was read -/
theorem tag_at {sy : Nat} {v : Va} {post : Int32 → Prop} (hv : atm sy v) (hy : sy ≤ 40) (k : ∀ t, t < 4 → t = vkd v → post (nI t)) : V_X10_tag (cw φ v) post := by
  rcases v with _ | n | s | v | v | v | v
  · exact v_tag (t := 1) (h := 0) (by decide) (by decide) (by decide) (k 1 (by decide) rfl)
  · have hv : -32768 ≤ n ∧ n ≤ 32767 := hv
    exact v_tag (t := 2) (h := n) (by decide) (by omega) (by omega) (k 2 (by decide) rfl)
  · have hv : s < sy := hv
    exact v_tag (t := 3) (h := (s : Nat)) (by decide) (by omega) (by omega) (k 3 (by decide) rfl)
  · exact hv.elim
  · exact hv.elim
  · exact hv.elim
  · exact hv.elim
theorem c_lenL {h : St} {post : Int32 → St → Prop} (hM : MemK h rc K φ) (hN : 2048 ≤ N) (hN2 : N < 2 ^ 31) : ∀ (l : List Nat) (n m : Nat) (v : Va), l.length + 1 < n → m + l.length < 1000 → Lst rc v l → kV K v → (∀ x ∈ l, kV K (rc x).2) → post (nI (m + l.length)) h → V_X2_listLength_4 N post n (nI m) (cw φ v) h
  | [], n, m, v, h1, h2, h3, _, _, kk => by
    obtain ⟨n, rfl⟩ : ∃ n', n = n' + 1 := ⟨n - 1, by omega⟩
    have e : v = vnil := h3
    subst e
    unfold V_X2_listLength_4
    exact v_tag (t := 1) (h := 0) (by decide) (by decide) (by decide) ⟨fun _ => kk, fun c => absurd c (by decide)⟩
  | x :: l, n, m, v, h1, h2, ⟨⟨c, e⟩, h3⟩, hk, hks, kk => by
    obtain ⟨n, rfl⟩ : ∃ n', n = n' + 1 := ⟨n - 1, by omega⟩
    subst e
    have hl : m + (l.length + 1) < 1000 := h2
    obtain ⟨a1, a2, a3⟩ := hM x c (hk x c rfl)
    unfold V_X2_listLength_4
    rw [cw_rd]
    refine v_tag (by decide) (by omega) (by omega) ⟨fun c => absurd rfl c, fun _ => ⟨fun c => absurd ((nI_leI (a := 2048) (b := m) (by decide) (by omega)).mp c) (by omega), fun _ => ?_⟩⟩
    rw [nI_1, ← cw_rd (φ := φ) x c]
    refine eqI (c_cdr1 a1 hN hN2 ?_)
    rw [a3]
    have h1 : (l.length + 1) + 1 < n + 1 := h1
    refine c_lenL hM hN hN2 l n (m + 1) _ (by omega) (by omega) h3 (hks x (by simp)) (fun y hy => hks y (by simp [hy])) ?_
    rw [show m + 1 + l.length = m + (l.length + 1) by omega]
    exact kk
theorem c_len {h : St} {n : Nat} {l : List Nat} {v : Va} {post : Int32 → St → Prop} (hM : MemK h rc K φ) (hN : 2048 ≤ N) (hN2 : N < 2 ^ 31) (hn : 1000 ≤ n) (hl : l.length < 900) (hL : Lst rc v l) (hk : kV K v) (hks : ∀ x ∈ l, kV K (rc x).2) (kk : post (nI l.length) h) : V_X2_listLength N n (cw φ v) h post := by
  unfold V_X2_listLength
  refine eqI (c_lenL hM hN hN2 l n 0 v (by omega) (by omega) hL hk hks ?_)
  rw [Nat.zero_add]; exact kk
theorem c_lenA {h : St} {n sy : Nat} {v : Va} {post : Int32 → St → Prop} (hn : 1 ≤ n) (hv : atm sy v) (hy : sy ≤ 40) (kk : post 0 h) : V_X2_listLength N n (cw φ v) h post := by
  obtain ⟨n, rfl⟩ : ∃ n', n = n' + 1 := ⟨n - 1, by omega⟩
  unfold V_X2_listLength V_X2_listLength_4
  exact eqI (tag_at hv hy (fun t ht _ => ⟨fun _ => kk, fun c => absurd ((nI_eq (b := 4) (by omega) (by decide)).mp c) (by omega)⟩))
end CM
