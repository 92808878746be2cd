section CM2
variable {N : Nat} {G : SG} {rc : Nat → Va × Va} {K : Nat → Nat → Prop} {φ : Nat → Nat}
/-- a value that was read -/
def rdv (K : Nat → Nat → Prop) (v : Va) : Prop := atm 40 v ∨ ∃ i c, v = vrd i c ∧ K i c ∧ c < 1024
theorem rdv_tag {v : Va} {post : Int32 → Prop} (hv : rdv K v) (k : post (nI (vkd v))) : V_X10_tag (cw φ v) post := by
  rcases hv with hv | ⟨i, c, rfl, -, hc⟩
  · exact tag_at hv (Nat.le_refl _) (fun t _ e => by rw [e]; exact k)
  · rw [cw_rd]
    exact v_tag (by decide) (by omega) (by omega) k
theorem rdv_sym {v : Va} {s : Nat} (hv : rdv K v) (hs : s < 40) : cw φ v = cw φ (vsym s) ↔ v = vsym s := by
  refine ⟨fun h => ?_, fun h => by rw [h]⟩
  have h2 : cw φ (vsym s) = wd 3 (s : Int) := rfl
  rw [h2] at h
  rcases hv with hv | ⟨i, c, rfl, -, hc⟩
  · rcases v with _ | n | t | v | v | v | v
    · have := (wd_inj (t := 1) (h := 0) (by decide) (by decide) (by decide) (by decide) (by omega) (by omega)).mp h
      exact absurd this.1 (by decide)
    · have hv : -32768 ≤ n ∧ n ≤ 32767 := hv
      have := (wd_inj (t := 2) (h := n) (by decide) (by decide) (by omega) (by omega) (by omega) (by omega)).mp h
      exact absurd this.1 (by decide)
    · have hv : t < 40 := hv
      have := (wd_inj (t := 3) (h := (t : Int)) (by decide) (by decide) (by omega) (by omega) (by omega) (by omega)).mp h
      have e : t = s := by omega
      rw [e]
    · exact hv.elim
    · exact hv.elim
    · exact hv.elim
    · exact hv.elim
  · rw [cw_rd] at h
    have := (wd_inj (t := 4) (h := ((2 * c : Nat) : Int)) (by decide) (by decide) (by omega) (by omega) (by omega) (by omega)).mp h
    exact absurd this.1 (by decide)
def fIx (rc : Nat → Va × Va) (s : Nat) : List Nat → Option Nat
  | [] => none
  | x :: l => if (rc x).1 = vsym s then some 0 else (fIx rc s l).map (fun i => i + 1)
theorem c_idxL {s : Nat} {post : Int32 → SG → Prop} (hM : MemK (G 2) rc K φ) (hN : 2048 ≤ N) (hN2 : N < 2 ^ 31) (hs : s < 40) : ∀ (l : List Nat) (n m : Nat) (v : Va), l.length + 1 < n → m + l.length ≤ 4 → Lst rc v l → kV K v → (∀ x ∈ l, kV K (rc x).2 ∧ rdv K (rc x).1) → (fIx rc s l = none → post (-1) G) → (∀ i, fIx rc s l = some i → post (nI (m + i)) G) → V_X1_indexIn_5 N post n (cw φ (vsym s)) (cw φ v) (nI m) G
  | [], n, m, v, h1, h2, h3, _, _, kn, _ => by
    obtain ⟨n, rfl⟩ : ∃ n', n = n' + 1 := ⟨n - 1, by omega⟩
    have e : v = vnil := h3
    subst e
    unfold V_X1_indexIn_5
    exact ⟨fun _ => kn rfl, fun _ => v_tag (t := 1) (h := 0) (by decide) (by decide) (by decide) ⟨fun _ => kn rfl, fun c => absurd c (by decide)⟩⟩
  | x :: l, n, m, v, h1, h2, ⟨⟨c, e⟩, h3⟩, hk, hks, kn, ks => by
    obtain ⟨n, rfl⟩ : ∃ n', n = n' + 1 := ⟨n - 1, by omega⟩
    subst e
    have h2 : m + (l.length + 1) ≤ 4 := h2
    have h1 : (l.length + 1) + 1 < n + 1 := h1
    obtain ⟨a1, a2, a3⟩ := hM x c (hk x c rfl)
    obtain ⟨b1, b2⟩ := hks x (by simp)
    unfold V_X1_indexIn_5
    refine ⟨fun c => absurd ((nI_leI (a := 4) (b := m) (by decide) (by omega)).mp c) (by omega), fun _ => ?_⟩
    rw [cw_rd]
    refine v_tag (by decide) (by omega) (by omega) ⟨fun c => absurd rfl c, fun _ => ?_⟩
    rw [← cw_rd φ x c]
    refine c_car1 a1 hN hN2 (eqI ?_)
    rw [show uo G 2 (G 2) = G from uo_id rfl, a2]
    refine ⟨fun c => c_cdr1 a1 hN hN2 (eqI ?_), fun c => ?_⟩
    · have hne : ¬ (rc x).1 = vsym s := fun e => c ((rdv_sym b2 hs).mpr e)
      rw [show uo G 2 (G 2) = G from uo_id rfl, a3, nI_1]
      refine eqI (c_idxL hM hN hN2 hs l n (m + 1) _ (by omega) (by omega) h3 b1 (fun y hy => hks y (by simp [hy])) (fun e => kn ?_) (fun i e => ?_))
      · show (if (rc x).1 = vsym s then some 0 else (fIx rc s l).map (fun i => i + 1)) = none
        rw [if_neg hne, e]; rfl
      · have := ks (i + 1) (by show (if (rc x).1 = vsym s then some 0 else (fIx rc s l).map (fun i => i + 1)) = some (i + 1); rw [if_neg hne, e]; rfl)
        rw [show m + 1 + i = m + (i + 1) by omega]; exact this
    · have he : (rc x).1 = vsym s := (rdv_sym b2 hs).mp c
      have := ks 0 (by show (if (rc x).1 = vsym s then some 0 else (fIx rc s l).map (fun i => i + 1)) = some 0; rw [if_pos he])
      exact this
theorem c_idx {s n : Nat} {l : List Nat} {v : Va} {post : Int32 → SG → Prop} (hM : MemK (G 2) rc K φ) (hN : 2048 ≤ N) (hN2 : N < 2 ^ 31) (hs : s < 40) (hn : 10 ≤ n) (hl : l.length ≤ 4) (hL : Lst rc v l) (hk : kV K v) (hks : ∀ x ∈ l, kV K (rc x).2 ∧ rdv K (rc x).1) (kn : fIx rc s l = none → post (-1) G) (ks : ∀ i, i < 4 → fIx rc s l = some i → post (nI i) G) : V_X1_indexIn N n (cw φ v) (cw φ (vsym s)) G post := by
  unfold V_X1_indexIn
  have hlt : ∀ (l : List Nat) i, fIx rc s l = some i → i < l.length := by
    intro l
    induction l with
    | nil => intro i h; cases h
    | cons x l ih =>
      intro i h
      have h : (if (rc x).1 = vsym s then some 0 else (fIx rc s l).map (fun i => i + 1)) = some i := h
      by_cases e : (rc x).1 = vsym s
      · rw [if_pos e] at h; cases h; simp
      · rw [if_neg e] at h
        cases e2 : fIx rc s l with
        | none => rw [e2] at h; cases h
        | some j => rw [e2] at h; cases h; have := ih j e2; simp; omega
  exact eqI (c_idxL hM hN hN2 hs l n 0 v (by omega) (by omega) hL hk hks kn (fun i h => by rw [Nat.zero_add]; exact ks i (by have := hlt l i h; omega) h))
/-- different symbols -/
def difS (rc : Nat → Va × Va) : List Nat → Prop
  | [] => True
  | x :: l => ∃ s, (rc x).1 = vsym s ∧ fIx rc s l = none ∧ difS rc l
theorem c_parL {post : Int32 → SG → Prop} (hM : MemK (G 2) rc K φ) (hN : 2048 ≤ N) (hN2 : N < 2 ^ 31) {len : Nat} (hlen : len ≤ 4) : ∀ (l : List Nat) (n m : Nat) (v : Va), l.length + 20 < n → m + l.length = len → Lst rc v l → kV K v → (∀ x ∈ l, kV K (rc x).2 ∧ rdv K (rc x).1) → (difS rc l → post 1 G) → (¬ difS rc l → post 0 G) → V_X1_areParameters_30 N post n (nI len) (cw φ v) (nI m) G
  | [], n, m, v, h1, h2, h3, _, _, k1, _ => by
    obtain ⟨n, rfl⟩ : ∃ n', n = n' + 1 := ⟨n - 1, by omega⟩
    have h2 : m + 0 = len := h2
    unfold V_X1_areParameters_30
    exact ⟨fun _ => k1 trivial, fun c => absurd ((nI_leI (by omega) (by omega)).mpr (by omega)) c⟩
  | x :: l, n, m, v, h1, h2, ⟨⟨c, e⟩, h3⟩, hk, hks, k1, k0 => by
    obtain ⟨n, rfl⟩ : ∃ n', n = n' + 1 := ⟨n - 1, by omega⟩
    subst e
    have h2 : m + (l.length + 1) = len := h2
    have h1 : (l.length + 1) + 20 < n + 1 := h1
    obtain ⟨a1, a2, a3⟩ := hM x c (hk x c rfl)
    obtain ⟨b1, b2⟩ := hks x (by simp)
    unfold V_X1_areParameters_30
    refine ⟨fun c => absurd ((nI_leI (a := len) (b := m) (by omega) (by omega)).mp c) (by omega), fun _ => c_car1 a1 hN hN2 (eqI ?_)⟩
    rw [show uo G 2 (G 2) = G from uo_id rfl, a2]
    refine c_cdr1 a1 hN hN2 (eqI ?_)
    rw [show uo G 2 (G 2) = G from uo_id rfl, a3]
    refine rdv_tag b2 ⟨fun c => k0 (fun hd => ?_), fun c => ?_⟩
    · obtain ⟨s, hs, -⟩ := hd
      rw [hs] at c
      exact c rfl
    · have hsy : ∃ s, (rc x).1 = vsym s ∧ s < 40 := by
        rcases b2 with b2 | ⟨i, c2, b2, -⟩
        · cases hv : (rc x).1 with
          | none => rw [hv] at c; exact absurd c (by decide)
          | some w =>
            rcases w with w | w | w
            · rw [hv] at c; exact absurd c (show ¬ nI 2 = 3 by decide)
            · rw [hv] at b2; exact ⟨w, rfl, b2⟩
            · rw [hv] at b2; exact b2.elim
        · rw [b2] at c; exact absurd c (show ¬ nI 4 = 3 by decide)
      obtain ⟨s, hs, hs40⟩ := hsy
      rw [hs]
      refine c_idx hM hN hN2 hs40 (by omega) (by omega) h3 b1 (fun y hy => hks y (by simp [hy])) (fun hn => ⟨fun _ => eqI ?_, fun c => absurd (by decide) c⟩) (fun i hi hn => ⟨fun c => absurd c (nI_pos (by omega)), fun _ => k0 (fun hd => ?_)⟩)
      · rw [nI_1]
        refine c_parL hM hN hN2 hlen l n (m + 1) _ (by omega) (by omega) h3 b1 (fun y hy => hks y (by simp [hy])) (fun hd => k1 ⟨s, hs, hn, hd⟩) (fun hd => k0 (fun hd2 => ?_))
        obtain ⟨-, -, -, hd2⟩ := hd2
        exact hd hd2
      · obtain ⟨s2, hs2, hn2, -⟩ := hd
        rw [hs] at hs2
        cases hs2
        rw [hn] at hn2
        cases hn2
end CM2
