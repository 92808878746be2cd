section GM2
variable {g0 : St} {k : StL} {P : Nat → Prop} {hp : Nat → Option Ob}
theorem n8 (s : Nat) : (8 : Int32) * nI s = nI (8 * s) := by
  rw [← iI_nat, ← iI_nat, show (8 : Int32) = iI 8 from rfl, iI_mul]
  congr 1
/-- what the collection needs to know of an object -/
def ObG (g0 : St) (P : Nat → Prop) (s : Nat) (o : Ob) : Prop := s < 168 ∧ (g0 8 s = nI (osort o) ∧ g0 9 s = nI (olen o) ∧ ∀ i, i < (ofs o).length → g0 10 (8 * s + i) = (ofs o).getD i 0) ∧ (∀ v ∈ ovs o, vok v ∧ ∀ t, vref v = some t → P t) ∧ (oenv o ≤ 168 ∧ ∀ t, eref (oenv o) = some t → P t) ∧ olen o ≤ 8
def orfs (M : Nat → Bool) (o : Ob) : Prop := (∀ v ∈ ovs o, inM M (vref v)) ∧ inM M (eref (oenv o))
theorem inM_le {M M1 : Nat → Bool} {o : Option Nat} (h : inM M o) (h1 : leM M M1) : inM M1 o := fun s hs => h1 s (h s hs)
theorem orfs_le {M M1 : Nat → Bool} {o : Ob} (h : orfs M o) (h1 : leM M M1) : orfs M1 o := ⟨fun v hv => inM_le (h.1 v hv) h1, inM_le h.2 h1⟩
theorem r_mwL {s f : Nat} {l : List Va} {post : St → StL → Prop} (hs : s < 168) (hl : f + l.length ≤ 8) (hv : ∀ v ∈ l, vok v ∧ ∀ t, vref v = some t → P t) (hf : ∀ i, i < l.length → g0 10 (8 * s + (f + i)) = enc (l.getD i none))
    (M0 : Nat → Bool) (kk : ∀ n g1 M1, MkR g0 g1 M1 → Sub M1 P → leM M0 M1 → (∀ v ∈ l, inM M1 (vref v)) → vp_in (nI s) 168 ∧ ((¬ (g1 8 (nI s).toNatClampNeg) = (3 : Int32) → V_X12_markWithin_128 post n (nI s) g1 k) ∧ ((g1 8 (nI s).toNatClampNeg) = (3 : Int32) → (vp_in (((8 : Int32) * nI s) + (1 : Int32)) 1344 ∧ V_X12_markFrame (g1 10 (((8 : Int32) * nI s) + (1 : Int32)).toNatClampNeg) g1 k (fun g_7 k_8 => V_X12_markWithin_128 post n (nI s) g_7 k_8))))) :
    ∀ (n i : Nat) (g : St) (M : Nat → Bool), l.length - i < n → i ≤ l.length → MkR g0 g M → Sub M P → leM M0 M → (∀ v ∈ l.take i, inM M (vref v)) → V_X12_markWithin_75 post n (nI s) (nI (f + l.length)) (nI (f + i)) g k
  | 0, i, g, M => fun h => absurd h (by omega)
  | n + 1, i, g, M => by
    intro h1 h2 hM hS h0 hd
    unfold V_X12_markWithin_75
    refine ⟨fun c => ?_, fun c => ?_⟩
    · have : i = l.length := by have := (nI_leI (a := f + l.length) (b := f + i) (by omega) (by omega)).mp c; omega
      subst this
      rw [List.take_length] at hd
      exact kk n g M hM hS h0 hd
    · have hi : i < l.length := by
        rcases Nat.lt_or_ge i l.length with z | z
        · exact z
        · exact absurd ((nI_leI (a := f + l.length) (b := f + i) (by omega) (by omega)).mpr (by omega)) c
      rw [n8, nI_add, nI_1, nI_clamp (by omega), hM.1 10 (by decide), hf i hi]
      have hmem : l.getD i none ∈ l := by
        rw [List.getD_eq_getElem?_getD, List.getElem?_eq_getElem hi]
        exact List.getElem_mem hi
      refine ⟨vp_in_nI (by omega) (by decide), r_mark hM hS (hv _ hmem).1 (hv _ hmem).2 (fun g1 M1 A B C D => eqI ?_)⟩
      rw [show f + i + 1 = f + (i + 1) by omega]
      refine r_mwL hs hl hv hf M0 kk n (i + 1) g1 M1 (by omega) hi A B (leM_tr h0 C) (fun v hv2 => ?_)
      rw [List.take_succ, List.mem_append] at hv2
      rcases hv2 with hv2 | hv2
      · exact inM_le (hd v hv2) C
      · rw [List.getElem?_eq_getElem hi] at hv2
        simp at hv2
        have : l.getD i none = v := by rw [List.getD_eq_getElem?_getD, List.getElem?_eq_getElem hi, hv2]; rfl
        rw [← this]; exact D
theorem r_within {n s : Nat} {o : Ob} {g : St} {M : Nat → Bool} {post : St → StL → Prop} (hn : 50 ≤ n) (hO : ObG g0 P s o) (hM : MkR g0 g M) (hS : Sub M P) (kk : ∀ g1 M1, MkR g0 g1 M1 → Sub M1 P → leM M M1 → orfs M1 o → post g1 k) : V_X12_markWithin n (nI s) g k post := by
  obtain ⟨h1, ⟨h2, h3, h4⟩, h5, ⟨h6, h7⟩, h8⟩ := hO
  have e8 : ∀ {g1 : St} {M1 : Nat → Bool}, MkR g0 g1 M1 → g1 8 (nI s).toNatClampNeg = nI (osort o) := fun h => by rw [nI_clamp (by omega), h.1 8 (by decide)]; exact h2
  have e9 : g 9 (nI s).toNatClampNeg = nI (olen o) := by rw [nI_clamp (by omega), hM.1 9 (by decide)]; exact h3
  have hin : vp_in (nI s) 168 := vp_in_nI h1 (by decide)
  have f1 : ∀ {g1 : St} {M1 : Nat → Bool} {i : Nat}, MkR g0 g1 M1 → i < (ofs o).length → i < 8 → g1 10 (nI (8 * s + i)).toNatClampNeg = (ofs o).getD i 0 := fun h hi h8 => by rw [nI_clamp (by omega), h.1 10 (by decide)]; exact h4 _ hi
  unfold V_X12_markWithin
  rcases o with ⟨a, d⟩ | l | ⟨r, e⟩ | ⟨p, q, l⟩
  · refine ⟨hin, fun _ => ?_, fun c => absurd ((e8 hM).symm.trans c) (show ¬ nI 1 = 4 by decide)⟩
    unfold V_X12_markWithin_15
    refine ⟨hin, fun c => absurd (e8 hM) c, fun _ => eqI ?_⟩
    refine r_mwL (f := 0) (l := [a, d]) h1 (show 0 + 2 ≤ 8 by decide) h5 (fun i hi => ?_) M (fun n1 g1 M1 A B C D => ⟨hin, fun _ => ?_, fun c => absurd ((e8 A).symm.trans c) (show ¬ nI 1 = 3 by decide)⟩) n 0 g M (by simp; omega) (Nat.zero_le _) hM hS (fun _ h => h) (fun v hv => by cases hv)
    · have := h4 i hi
      rw [Nat.zero_add, this]
      have : i = 0 ∨ i = 1 := by simp at hi; omega
      rcases this with rfl | rfl <;> rfl
    · unfold V_X12_markWithin_128
      exact ⟨hin, fun _ => kk g1 M1 A B C ⟨D, fun s c => by cases c⟩, fun c => absurd ((e8 A).symm.trans c) (show ¬ nI 1 = 4 by decide)⟩
  · have hll : l.length + 1 ≤ 8 := h8
    refine ⟨hin, fun _ => ?_, fun c => absurd ((e8 hM).symm.trans c) (show ¬ nI 2 = 4 by decide)⟩
    unfold V_X12_markWithin_15
    refine ⟨hin, fun _ => ⟨hin, fun c => absurd (e8 hM) c, fun _ => ⟨hin, eqI ?_⟩⟩, fun c => absurd ((e8 hM).symm.trans c) (show ¬ nI 2 = 1 by decide)⟩
    rw [e9, show nI (olen (ovec l)) - 1 = nI l.length from nI_pred _, show l.length = 0 + l.length by omega]
    refine r_mwL (f := 0) (l := l) h1 (by omega) h5 (fun i hi => ?_) M (fun n1 g1 M1 A B C D => ⟨hin, fun _ => ?_, fun c => absurd ((e8 A).symm.trans c) (show ¬ nI 2 = 3 by decide)⟩) n 0 g M (by omega) (Nat.zero_le _) hM hS (fun _ h => h) (fun v hv => by cases hv)
    · have h9 : i < (ofs (ovec l)).length := by simpa [ofs] using hi
      have := h4 i h9
      rw [Nat.zero_add, this]
      show (l.map enc).getD i 0 = _
      rw [List.getD_eq_getElem?_getD, List.getD_eq_getElem?_getD, List.getElem?_map, List.getElem?_eq_getElem hi]; rfl
    · unfold V_X12_markWithin_128
      exact ⟨hin, fun _ => kk g1 M1 A B C ⟨D, fun s c => by cases c⟩, fun c => absurd ((e8 A).symm.trans c) (show ¬ nI 2 = 4 by decide)⟩
  · refine ⟨hin, fun _ => ?_, fun c => absurd ((e8 hM).symm.trans c) (show ¬ nI 3 = 4 by decide)⟩
    unfold V_X12_markWithin_15
    refine ⟨hin, fun _ => ⟨hin, fun _ => ⟨hin, fun _ => eqI ?_, fun c => absurd ((e8 hM).symm.trans c) (show ¬ nI 3 = 4 by decide)⟩, fun c => absurd ((e8 hM).symm.trans c) (show ¬ nI 3 = 2 by decide)⟩, fun c => absurd ((e8 hM).symm.trans c) (show ¬ nI 3 = 1 by decide)⟩
    refine r_mwL (f := 0) (l := []) h1 (by decide) (fun v hv => by cases hv) (fun i hi => absurd hi (Nat.not_lt_zero _)) M (fun n1 g1 M1 A B C D => ⟨hin, fun c => absurd (e8 A) c, fun _ => ?_⟩) n 0 g M (by simp; omega) (Nat.zero_le _) hM hS (fun _ h => h) (fun v hv => by cases hv)
    rw [n8, nI_1, f1 A (by show 1 < 2; decide) (by decide)]
    refine ⟨vp_in_nI (by omega) (by decide), r_markFrame (e := e) A B h6 h7 (fun g2 M2 A2 B2 C2 D2 => ?_)⟩
    unfold V_X12_markWithin_128
    exact ⟨hin, fun _ => kk g2 M2 A2 B2 (leM_tr C C2) ⟨fun v hv => (by cases hv), D2⟩, fun c => absurd ((e8 A2).symm.trans c) (show ¬ nI 3 = 4 by decide)⟩
  · have hll : l.length + 2 ≤ 8 := h8
    refine ⟨hin, fun c => absurd (e8 hM) c, fun _ => ?_⟩
    unfold V_X12_markWithin_15
    refine ⟨hin, fun _ => ⟨hin, fun _ => ⟨hin, fun c => absurd (e8 hM) c, fun _ => ⟨hin, eqI ?_⟩⟩, fun c => absurd ((e8 hM).symm.trans c) (show ¬ nI 4 = 2 by decide)⟩, fun c => absurd ((e8 hM).symm.trans c) (show ¬ nI 4 = 1 by decide)⟩
    rw [e9, show olen (ofrm p q l) = 2 + l.length from Nat.add_comm _ _]
    refine r_mwL (f := 2) (l := l) h1 (by omega) h5 (fun i hi => ?_) M (fun n1 g1 M1 A B C D => ⟨hin, fun _ => ?_, fun c => absurd ((e8 A).symm.trans c) (show ¬ nI 4 = 3 by decide)⟩) n 0 g M (by omega) (Nat.zero_le _) hM hS (fun _ h => h) (fun v hv => by cases hv)
    · have h9 : 2 + i < (ofs (ofrm p q l)).length := by simp [ofs]; omega
      rw [h4 (2 + i) h9]
      show (nI p :: enc q :: l.map enc).getD (2 + i) 0 = _
      rw [show 2 + i = i + 1 + 1 by omega]
      rw [List.getD_eq_getElem?_getD, List.getD_eq_getElem?_getD, List.getElem?_cons_succ, List.getElem?_cons_succ, List.getElem?_map, List.getElem?_eq_getElem hi]; rfl
    · unfold V_X12_markWithin_128
      refine ⟨hin, fun c => absurd (e8 A) c, fun _ => ?_⟩
      rw [n8]
      refine ⟨vp_in_nI (by omega) (by decide), ?_⟩
      rw [show 8 * s = 8 * s + 0 by omega, f1 A (by simp [ofs]) (by decide)]
      exact r_markFrame (e := p) A B h6 h7 (fun g2 M2 A2 B2 C2 D2 => kk g2 M2 A2 B2 (leM_tr C C2) ⟨fun v hv => inM_le (D v hv) C2, D2⟩)
end GM2
