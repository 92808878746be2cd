section GCC
variable {sy rn vp top : Nat} {nam : Nat → List Nat} {sv : Nat → Option Va} {rc : Nat → Va × Va} {K : Nat → Nat → Prop} {C : Nat → Prop} {hp : Nat → Option Ob} {X : Nat → Prop} {c : Nat → Int32} {tp : Nat} {ent : Nat → Nat} {vl : Nat → Va} {kb : Nat → Option Nat}
theorem r_gc {g : St} {k : StL} {n : Nat} {post : St → StL → Prop} (hPu : HPu sy rn nam sv rc K C hp X c tp ent) (hn : 6000 ≤ n) (hy : sy ≤ 40) (hrn : rn ≤ 1100) (hS : SymM (g 0 2) (g 1) (g 2) (g 3) (k 1) sy nam sv) (hR : RdM g rc rn) (hH : HpM g hp) (hv : g 0 13 = nI vp ∧ vp ≤ 1100 ∧ ∀ i, i < vp → g 21 i = enc (vl i) ∧ VV K C hp (vl i)) (ht : g 0 12 = nI top ∧ top ≤ 1002 ∧ ∀ i, i < top → (kb i = none → ¬ g 15 i = 32) ∧ ∀ e, kb i = some e → g 15 i = 32 ∧ g 19 i = nI e ∧ eok hp e)
    (hX : ∀ s, X s ↔ (∃ i, i < vp ∧ vref (vl i) = some s) ∨ ∃ i e, i < top ∧ kb i = some e ∧ eref e = some s)
    (kk : ∀ g1, (∀ c, c ≠ 0 → c ≠ 8 → c ≠ 11 → g1 c = g c) → (∀ i, i ≠ 4 → i ≠ 5 → i ≠ 6 → g1 0 i = g 0 i) → HpM g1 (gcH hp (RtA sy rn sv rc X)) → g1 0 4 = nI (usum (gcH hp (RtA sy rn sv rc X)) 168) → g1 0 5 = g 0 5 + 1 → g1 0 6 = nI (usum (gcH hp (RtA sy rn sv rc X)) 168) → post g1 k) : V_X12_gather n g k post := by
  have eok_le : ∀ e, eok hp e → e ≤ 168 := fun e he => by
    cases e with
    | zero => exact Nat.zero_le _
    | succ e => exact he.1
  have hO : ObsG g (Live hp (RtA sy rn sv rc X)) hp := by
    intro s hs
    obtain ⟨h1, o, ho⟩ := Live_ok hPu hs
    have hob := (hPu.2.2.2.2.1 s o ho).2
    obtain ⟨hvv, sc, he⟩ := ObR_in hob
    exact ⟨o, ho, h1, (hH s h1).2 o ho, fun v hv => ⟨(hvv v hv).ok, fun t ht => Live_cl hs ho (Or.inl ⟨v, hv, ht⟩)⟩, ⟨eok_le _ (EnvR_ok he), fun t ht => Live_cl hs ho (Or.inr ht)⟩, ObR_len hob⟩
  have hRt : RtG g (Live hp (RtA sy rn sv rc X)) sy rn vp top sv rc vl kb := by
    refine ⟨⟨hS.1, hy, fun i hi => ⟨(hS.2.1 i hi).2.2.1, fun v e => ?_⟩⟩, ⟨hR.1, hrn, fun i hi => ?_⟩, ⟨hv.1, hv.2.1, fun i hi => ?_⟩, ⟨ht.1, ht.2.1, fun i hi => ⟨(ht.2.2 i hi).1, fun e he => ?_⟩⟩⟩
    · obtain ⟨a, b⟩ := (hS.2.1 i hi).2.2.2 v e
      exact ⟨a, b, (hPu.1 i v hi e).ok, fun s hs => Live_rt (Or.inl ⟨i, v, hi, e, hs⟩)⟩
    · obtain ⟨a, b, d, e⟩ := hR.2 i hi
      exact ⟨a, b, ⟨d, fun s hs => Live_rt (Or.inr (Or.inl ⟨i, hi, Or.inl hs⟩))⟩, ⟨e, fun s hs => Live_rt (Or.inr (Or.inl ⟨i, hi, Or.inr hs⟩))⟩⟩
    · obtain ⟨a, b⟩ := hv.2.2 i hi
      exact ⟨a, b.ok, fun s hs => Live_rt (Or.inr (Or.inr ((hX s).mpr (Or.inl ⟨i, hi, hs⟩))))⟩
    · obtain ⟨a, b, d⟩ := (ht.2.2 i hi).2 e he
      exact ⟨a, b, eok_le e d, fun s hs => Live_rt (Or.inr (Or.inr ((hX s).mpr (Or.inr ⟨i, e, hi, he, hs⟩))))⟩
  refine r_gather hn hO (fun s hs => (Live_ok hPu hs).1) hRt (fun g1 M hSub hRM hCl hGR => ?_)
  have hM : ∀ s, Live hp (RtA sy rn sv rc X) s → M s = true := by
    intro s hs
    refine (hs (fun s => Live hp (RtA sy rn sv rc X) s ∧ M s = true) (fun t h => ⟨Live_rt h, ?_⟩) (fun t o h ho x hx => ⟨Live_cl h.1 ho hx, ?_⟩)).2
    · rcases h with ⟨i, v, hi, hv, hr⟩ | ⟨i, hi, hr | hr⟩ | h
      · exact hRM.1 i hi v hv t hr
      · exact (hRM.2.1 i hi).1 t hr
      · exact (hRM.2.1 i hi).2 t hr
      · rcases (hX t).mp h with ⟨i, hi, hr⟩ | ⟨i, e, hi, he, hr⟩
        · exact hRM.2.2.1 i hi t hr
        · exact hRM.2.2.2 i hi e he t hr
    · obtain ⟨d1, d2⟩ := hCl t o (Live_ok hPu h.1).1 h.2 ho
      rcases hx with ⟨v, h1, h2⟩ | hx
      · exact d1 v h1 x h2
      · exact d2 x hx
  have hE : hpM hp M = gcH hp (RtA sy rn sv rc X) := by
    funext s
    unfold hpM
    cases e : M s with
    | true => rw [gcH_y (hSub s e)]; rfl
    | false => rw [gcH_n (fun c => by rw [hM s c] at e; cases e)]; rfl
  obtain ⟨m1, m2, m3, m4, m5, m6⟩ := hGR
  rw [hE] at m3 m5
  refine kk g1 m1 m2 (fun s hs => ⟨fun e => ?_, fun o ho => ?_⟩) m3 m4 m5
  · rw [m6 s hs]
    cases em : M s with
    | true =>
      obtain ⟨-, o, ho⟩ := Live_ok hPu (hSub s em)
      rw [gcH_y (hSub s em), ho] at e
      cases e
    | false => rfl
  · obtain ⟨hl, ho⟩ := gcH_some ho
    rw [m6 s hs, hM s hl, m1 9 (by decide) (by decide) (by decide), m1 10 (by decide) (by decide) (by decide)]
    exact (hH s hs).2 o ho
end GCC
