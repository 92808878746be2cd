section GM4
variable {g0 : St} {k : StL} {P : Nat → Prop} {hp : Nat → Option Ob} {sv : Nat → Option Va} {rc : Nat → Va × Va} {vl : Nat → Va} {kb : Nat → Option Nat} {sy rn vp top : Nat}
def vP (P : Nat → Prop) (v : Va) : Prop := vok v ∧ ∀ s, vref v = some s → P s
/-- the roots of the reference -/
def RtG (g0 : St) (P : Nat → Prop) (sy rn vp top : Nat) (sv : Nat → Option Va) (rc : Nat → Va × Va) (vl : Nat → Va) (kb : Nat → Option Nat) : Prop :=
  (g0 0 2 = nI sy ∧ sy ≤ 40 ∧ ∀ i, i < sy → (sv i = none → g0 2 i = 0) ∧ ∀ v, sv i = some v → g0 2 i = 1 ∧ g0 3 i = enc v ∧ vP P v) ∧
  (g0 0 3 = nI rn ∧ rn ≤ 1100 ∧ ∀ i, i < rn → g0 6 i = enc (rc i).1 ∧ g0 7 i = enc (rc i).2 ∧ vP P (rc i).1 ∧ vP P (rc i).2) ∧
  (g0 0 13 = nI vp ∧ vp ≤ 1100 ∧ ∀ i, i < vp → g0 21 i = enc (vl i) ∧ vP P (vl i)) ∧
  (g0 0 12 = nI top ∧ top ≤ 1002 ∧ ∀ i, i < top → (kb i = none → ¬ g0 15 i = 32) ∧ ∀ e, kb i = some e → g0 15 i = 32 ∧ g0 19 i = nI e ∧ e ≤ 168 ∧ ∀ s, eref e = some s → P s)
def RtM (sy rn vp top : Nat) (sv : Nat → Option Va) (rc : Nat → Va × Va) (vl : Nat → Va) (kb : Nat → Option Nat) (M : Nat → Bool) : Prop :=
  (∀ i, i < sy → ∀ v, sv i = some v → inM M (vref v)) ∧ (∀ i, i < rn → inM M (vref (rc i).1) ∧ inM M (vref (rc i).2)) ∧ (∀ i, i < vp → inM M (vref (vl i))) ∧ ∀ i, i < top → ∀ e, kb i = some e → inM M (eref e)
theorem RtM_le {M M1 : Nat → Bool} (h : leM M M1) (hR : RtM sy rn vp top sv rc vl kb M) : RtM sy rn vp top sv rc vl kb M1 :=
  ⟨fun i hi v hv => inM_le (hR.1 i hi v hv) h, fun i hi => ⟨inM_le (hR.2.1 i hi).1 h, inM_le (hR.2.1 i hi).2 h⟩, fun i hi => inM_le (hR.2.2.1 i hi) h, fun i hi e he => inM_le (hR.2.2.2 i hi e he) h⟩
theorem ltI {i m : Nat} (hi : i ≤ m) (hm : m < 2 ^ 31) (c : ¬ nI m ≤ nI i) : i < m := by
  rcases Nat.lt_or_ge i m with z | z
  · exact z
  · exact absurd ((nI_leI hm (by omega)).mpr z) c
theorem geI {i m : Nat} (hi : i ≤ m) (hm : m < 2 ^ 31) (c : nI m ≤ nI i) : i = m := by
  have := (nI_leI (a := m) (b := i) hm (by omega)).mp c
  omega
theorem r_rootK {post : St → StL → Prop} (hO : ObsG g0 P hp) (hP168 : ∀ s, P s → s < 168) (hR : RtG g0 P sy rn vp top sv rc vl kb) (kk : ∀ g1 M, Sub M P → RtM sy rn vp top sv rc vl kb M → Cl hp M → GRm g0 g1 hp M → post g1 k) :
    ∀ (n i : Nat) (g : St) (M : Nat → Bool), top - i + 1000 < n → i ≤ top → MkR g0 g M → Sub M P → RtM sy rn vp i sv rc vl kb M → V_X12_gather_121 post n (nI i) g k
  | 0, i, g, M => fun h => absurd h (by omega)
  | n + 1, i, g, M => by
    intro h1 h2 hM hS hd
    obtain ⟨-, -, -, ⟨t1, t2, t3⟩⟩ := id hR
    unfold V_X12_gather_121
    rw [hM.1 0 (by decide), t1]
    refine ⟨fun c => eqI ?_, fun c => ?_⟩
    · have := geI h2 (by omega) c
      subst this
      exact r_fix (R := RtM sy rn vp i sv rc vl kb) hO (fun M M1 h hR => RtM_le h hR) hP168 kk n _ g M (Or.inl (by omega)) hM hS hd (Or.inl rfl)
    · have hi := ltI h2 (by omega) c
      obtain ⟨a1, a2⟩ := t3 i hi
      rw [nI_clamp (by omega), hM.1 15 (by decide), hM.1 19 (by decide), nI_1]
      cases e : kb i with
      | none =>
        refine ⟨vp_in_nI (by omega) (by decide), fun _ => eqI ?_, fun c => absurd c (a1 e)⟩
        refine r_rootK hO hP168 hR kk n (i + 1) g M (by omega) hi hM hS ⟨hd.1, hd.2.1, hd.2.2.1, fun x hx y hy => ?_⟩
        by_cases ex : x = i
        · subst ex; rw [e] at hy; cases hy
        · exact hd.2.2.2 x (by omega) y hy
      | some w =>
        obtain ⟨b1, b2, b3, b4⟩ := a2 w e
        refine ⟨vp_in_nI (by omega) (by decide), fun c => absurd b1 c, fun _ => ⟨vp_in_nI (by omega) (by decide), ?_⟩⟩
        rw [b2]
        refine r_markFrame hM hS b3 b4 (fun g1 M1 A B C D => eqI ?_)
        have hd1 := RtM_le C hd
        refine r_rootK hO hP168 hR kk n (i + 1) g1 M1 (by omega) hi A B ⟨hd1.1, hd1.2.1, hd1.2.2.1, fun x hx y hy => ?_⟩
        by_cases ex : x = i
        · subst ex; rw [e] at hy; cases hy; exact D
        · exact hd1.2.2.2 x (by omega) y hy
theorem r_rootV {post : St → StL → Prop} (hO : ObsG g0 P hp) (hP168 : ∀ s, P s → s < 168) (hR : RtG g0 P sy rn vp top sv rc vl kb) (kk : ∀ g1 M, Sub M P → RtM sy rn vp top sv rc vl kb M → Cl hp M → GRm g0 g1 hp M → post g1 k) :
    ∀ (n i : Nat) (g : St) (M : Nat → Bool), vp - i + 2100 < n → i ≤ vp → MkR g0 g M → Sub M P → RtM sy rn i 0 sv rc vl kb M → V_X12_gather_95 post n (nI i) g k
  | 0, i, g, M => fun h => absurd h (by omega)
  | n + 1, i, g, M => by
    intro h1 h2 hM hS hd
    obtain ⟨-, -, ⟨t1, t2, t3⟩, q4⟩ := id hR
    unfold V_X12_gather_95
    rw [hM.1 0 (by decide), t1]
    refine ⟨fun c => eqI ?_, fun c => ?_⟩
    · have := geI h2 (by omega) c
      subst this
      exact r_rootK hO hP168 hR kk n 0 g M (by have := q4.2.1; omega) (Nat.zero_le _) hM hS hd
    · have hi := ltI h2 (by omega) c
      obtain ⟨a1, a2⟩ := t3 i hi
      rw [nI_clamp (by omega), hM.1 21 (by decide), a1, nI_1]
      refine ⟨vp_in_nI (by omega) (by decide), r_mark hM hS a2.1 a2.2 (fun g1 M1 A B C D => eqI ?_)⟩
      have hd1 := RtM_le C hd
      refine r_rootV hO hP168 hR kk n (i + 1) g1 M1 (by omega) hi A B ⟨hd1.1, hd1.2.1, fun x hx => ?_, hd1.2.2.2⟩
      by_cases ex : x = i
      · subst ex; exact D
      · exact hd1.2.2.1 x (by omega)
theorem r_rootR {post : St → StL → Prop} (hO : ObsG g0 P hp) (hP168 : ∀ s, P s → s < 168) (hR : RtG g0 P sy rn vp top sv rc vl kb) (kk : ∀ g1 M, Sub M P → RtM sy rn vp top sv rc vl kb M → Cl hp M → GRm g0 g1 hp M → post g1 k) :
    ∀ (n i : Nat) (g : St) (M : Nat → Bool), rn - i + 3300 < n → i ≤ rn → MkR g0 g M → Sub M P → RtM sy i 0 0 sv rc vl kb M → V_X12_gather_59 post n (nI i) g k
  | 0, i, g, M => fun h => absurd h (by omega)
  | n + 1, i, g, M => by
    intro h1 h2 hM hS hd
    obtain ⟨-, ⟨t1, t2, t3⟩, q3, -⟩ := id hR
    unfold V_X12_gather_59
    rw [hM.1 0 (by decide), t1]
    refine ⟨fun c => eqI ?_, fun c => ?_⟩
    · have := geI h2 (by omega) c
      subst this
      exact r_rootV hO hP168 hR kk n 0 g M (by have := q3.2.1; omega) (Nat.zero_le _) hM hS hd
    · have hi := ltI h2 (by omega) c
      obtain ⟨a1, a2, a3, a4⟩ := t3 i hi
      rw [nI_clamp (by omega), hM.1 6 (by decide), a1, nI_1]
      refine ⟨vp_in_nI (by omega) (by decide), r_mark hM hS a3.1 a3.2 (fun g1 M1 A B C D => ⟨vp_in_nI (by omega) (by decide), ?_⟩)⟩
      rw [A.1 7 (by decide), a2]
      refine r_mark A B a4.1 a4.2 (fun g2 M2 A2 B2 C2 D2 => eqI ?_)
      have hd1 := RtM_le (leM_tr C C2) hd
      refine r_rootR hO hP168 hR kk n (i + 1) g2 M2 (by omega) hi A2 B2 ⟨hd1.1, fun x hx => ?_, hd1.2.2.1, hd1.2.2.2⟩
      by_cases ex : x = i
      · subst ex; exact ⟨inM_le D C2, D2⟩
      · exact hd1.2.1 x (by omega)
theorem r_rootS {post : St → StL → Prop} (hO : ObsG g0 P hp) (hP168 : ∀ s, P s → s < 168) (hR : RtG g0 P sy rn vp top sv rc vl kb) (kk : ∀ g1 M, Sub M P → RtM sy rn vp top sv rc vl kb M → Cl hp M → GRm g0 g1 hp M → post g1 k) :
    ∀ (n i : Nat) (g : St) (M : Nat → Bool), sy - i + 4500 < n → i ≤ sy → MkR g0 g M → Sub M P → RtM i 0 0 0 sv rc vl kb M → V_X12_gather_24 post n (nI i) g k
  | 0, i, g, M => fun h => absurd h (by omega)
  | n + 1, i, g, M => by
    intro h1 h2 hM hS hd
    obtain ⟨⟨t1, t2, t3⟩, q2, -, -⟩ := id hR
    unfold V_X12_gather_24
    rw [hM.1 0 (by decide), t1]
    refine ⟨fun c => eqI ?_, fun c => ?_⟩
    · have := geI h2 (by omega) c
      subst this
      exact r_rootR hO hP168 hR kk n 0 g M (by have := q2.2.1; omega) (Nat.zero_le _) hM hS hd
    · have hi := ltI h2 (by omega) c
      obtain ⟨a1, a2⟩ := t3 i hi
      rw [nI_clamp (by omega), hM.1 2 (by decide), hM.1 3 (by decide), nI_1]
      cases e : sv i with
      | none =>
        refine ⟨vp_in_nI (by omega) (by decide), fun _ => eqI ?_, fun c => absurd (a1 e) c⟩
        refine r_rootS hO hP168 hR kk n (i + 1) g M (by omega) hi hM hS ⟨fun x hx y hy => ?_, hd.2⟩
        by_cases ex : x = i
        · subst ex; rw [e] at hy; cases hy
        · exact hd.1 x (by omega) y hy
      | some w =>
        obtain ⟨b1, b2, b3⟩ := a2 w e
        refine ⟨vp_in_nI (by omega) (by decide), fun c => absurd (b1.symm.trans c) (by decide), fun _ => ⟨vp_in_nI (by omega) (by decide), ?_⟩⟩
        rw [b2]
        refine r_mark hM hS b3.1 b3.2 (fun g1 M1 A B C D => eqI ?_)
        have hd1 := RtM_le C hd
        refine r_rootS hO hP168 hR kk n (i + 1) g1 M1 (by omega) hi A B ⟨fun x hx y hy => ?_, hd1.2⟩
        by_cases ex : x = i
        · subst ex; rw [e] at hy; cases hy; exact D
        · exact hd1.1 x (by omega) y hy
theorem r_clear {post : St → StL → Prop} (hO : ObsG g0 P hp) (hP168 : ∀ s, P s → s < 168) (hR : RtG g0 P sy rn vp top sv rc vl kb) (kk : ∀ g1 M, Sub M P → RtM sy rn vp top sv rc vl kb M → Cl hp M → GRm g0 g1 hp M → post g1 k) :
    ∀ (n i : Nat) (g : St), 168 - i + 5000 < n → i ≤ 168 → (∀ c, c ≠ 11 → g c = g0 c) → (∀ s, s < i → g 11 s = 0) → V_X12_gather_2 post n (nI i) g k
  | 0, i, g => fun h => absurd h (by omega)
  | n + 1, i, g => by
    intro h1 h2 hc hd
    unfold V_X12_gather_2
    refine ⟨fun c => eqI ?_, fun c => ?_⟩
    · have := ge168 h2 c
      subst this
      exact r_rootS hO hP168 hR kk n 0 g (fun _ => false) (by have := hR.1.2.1; omega) (Nat.zero_le _) ⟨hc, fun s hs => hd s hs⟩ (fun s h => by cases h) ⟨fun i h => absurd h (Nat.not_lt_zero _), fun i h => absurd h (Nat.not_lt_zero _), fun i h => absurd h (Nat.not_lt_zero _), fun i h => absurd h (Nat.not_lt_zero _)⟩
    · have hi := lt168 h2 c
      rw [nI_clamp (by omega), nI_1]
      refine ⟨vp_in_nI hi (by decide), eqI (eqI ?_)⟩
      refine r_clear hO hP168 hR kk n (i + 1) _ (by omega) hi (fun c hc1 => by rw [upB _ _ _ hc1]; exact hc c hc1) (fun s hs => ?_)
      rw [upA]
      by_cases e : s = i
      · subst e; rw [updE]; rfl
      · rw [updN _ _ e]; exact hd s (by omega)
theorem r_gather {n : Nat} {post : St → StL → Prop} (hn : 6000 ≤ n) (hO : ObsG g0 P hp) (hP168 : ∀ s, P s → s < 168) (hR : RtG g0 P sy rn vp top sv rc vl kb) (kk : ∀ g1 M, Sub M P → RtM sy rn vp top sv rc vl kb M → Cl hp M → GRm g0 g1 hp M → post g1 k) : V_X12_gather n g0 k post := by
  unfold V_X12_gather
  exact eqI (r_clear hO hP168 hR kk n 0 g0 (by omega) (Nat.zero_le _) (fun _ _ => rfl) (fun s h => absurd h (Nat.not_lt_zero _)))
end GM4
