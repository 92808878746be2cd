-- ===== room is asked for =====
noncomputable def gcK (x : Cx) (Kf : List Fr) (sv : Nat → Option Va) (rc : Nat → Va × Va) (hp : Nat → Option Ob) : Nat → Option Ob := gcH hp (RtA x.sy x.rn sv rc (XK Kf))
def cnG (cn : Nat → Int32) (u : Nat) : Nat → Int32 := cnU (cnU cn 0 (cn 0 + 1)) 1 (nI u)
/-- heap and counters when room was asked for -/
noncomputable def rmH (x : Cx) (Kf : List Fr) (sv : Nat → Option Va) (rc : Nat → Va × Va) (hp : Nat → Option Ob) (m : Nat) : Nat → Option Ob := if usum hp 168 + m ≤ x.z then hp else gcK x Kf sv rc hp
noncomputable def rmC (x : Cx) (Kf : List Fr) (sv : Nat → Option Va) (rc : Nat → Va × Va) (hp : Nat → Option Ob) (cn : Nat → Int32) (m : Nat) : Nat → Int32 := if usum hp 168 + m ≤ x.z then cn else cnG cn (usum (gcK x Kf sv rc hp) 168)
theorem ncal_len : ∀ Kf : List Fr, ncal Kf ≤ Kf.length
  | [] => Nat.le_refl _
  | (op, _, _, _, _, _, _) :: K => by
    have := ncal_len K
    show (if op = 33 then 1 else 0) + ncal K ≤ K.length + 1
    split <;> omega
section RM
variable {x : Cx} {G0 G : SG} {N : Nat} {φ : Nat → Nat} {b lo hi : Nat} {sv : Nat → Option Va} {rc : Nat → Va × Va} {hp : Nat → Option Ob} {out : List Nat} {inp : List Int} {cn : Nat → Int32} {LV LC LK : List Gw} {p n i : Nat} {post : Int32 → SG → Prop}
theorem cat_ok : ∀ (Kf : List Fr) (p d : Nat) (sc : List (List Nat)), Cn x hp Kf p d sc → x.tp ≤ 1400 → ∀ y ∈ cat Kf, (∃ m : Nat, y = gv (vnum (m : Int)) ∧ m ≤ 1400 + 4 * Kf.length) ∨ ∃ v ∈ allv Kf, y = gv v
  | [], p, d, sc, _, _, y, h => by cases h
  | (op, i, rest, st, e, q, vs) :: K, p, d, sc, ⟨h1, h2, h3, h4, D, p1, h5, h6, h7, h8, h9, h10, h11⟩, htp, y, h => by
    have hK : ∃ d1 sc1, Cn x hp K q d1 sc1 := by
      by_cases e1 : op = 33
      · obtain ⟨-, sc1, hK⟩ := h10 e1
        exact ⟨2, sc1, hK⟩
      · exact ⟨_, _, h11 e1⟩
    obtain ⟨d1, sc1, hK⟩ := hK
    have hnc := ncal_len K
    obtain ⟨-, z2, z3, -⟩ := Cn_all K q d1 sc1 hK
    have h : y ∈ (if op = 7 ∧ st = 1 then gv (vnum (q : Int)) :: gv (vnum ((2 * ncal K : Nat) : Int)) :: gv (vnum ((cvl K).length : Int)) :: vs.map (fun v => gv v) else []) ++ cat K := h
    rcases List.mem_append.mp h with hm | hm
    · by_cases e1 : op = 7 ∧ st = 1
      · rw [if_pos e1] at hm
        simp only [List.mem_cons, List.mem_map] at hm
        rcases hm with hm | hm | hm | ⟨v, hv, hm⟩
        · exact Or.inl ⟨q, hm, by omega⟩
        · exact Or.inl ⟨2 * ncal K, hm, by show 2 * ncal K ≤ 1400 + 4 * (K.length + 1); omega⟩
        · exact Or.inl ⟨(cvl K).length, hm, by show (cvl K).length ≤ 1400 + 4 * (K.length + 1); omega⟩
        · exact Or.inr ⟨v, List.mem_append.mpr (Or.inl hv), hm.symm⟩
      · rw [if_neg e1] at hm; cases hm
    · rcases cat_ok K q d1 sc1 hK htp y hm with ⟨m, e1, e2⟩ | ⟨v, hv, e1⟩
      · exact Or.inl ⟨m, e1, by show m ≤ 1400 + 4 * (K.length + 1); omega⟩
      · exact Or.inr ⟨v, List.mem_append.mpr (Or.inr hv), e1⟩
theorem ccl_ok : ∀ (Kf : List Fr) (p d : Nat) (sc : List (List Nat)), Cn x hp Kf p d sc → x.tp ≤ 1400 → ∀ y ∈ ccl Kf, (∃ m : Nat, y = gv (vnum (m : Int)) ∧ m ≤ 1400) ∨ ∃ e ∈ envs Kf, y = some (.inr e)
  | [], p, d, sc, _, _, y, h => by cases h
  | (op, i, rest, st, e, q, vs) :: K, p, d, sc, ⟨h1, h2, h3, h4, D, p1, h5, h6, h7, h8, h9, h10, h11⟩, htp, y, h => by
    have hK : ∃ d1 sc1, Cn x hp K q d1 sc1 := by
      by_cases e1 : op = 33
      · obtain ⟨-, sc1, hK⟩ := h10 e1
        exact ⟨2, sc1, hK⟩
      · exact ⟨_, _, h11 e1⟩
    obtain ⟨d1, sc1, hK⟩ := hK
    have h : y ∈ (if op = 33 then [gv (vnum (q : Int)), (some (Sum.inr e) : Gw)] else []) ++ ccl K := h
    rcases List.mem_append.mp h with hm | hm
    · by_cases e1 : op = 33
      · rw [if_pos e1] at hm
        simp only [List.mem_cons, List.not_mem_nil, or_false] at hm
        rcases hm with hm | hm
        · exact Or.inl ⟨q, hm, by omega⟩
        · exact Or.inr ⟨e, List.mem_append.mpr (Or.inl (by rw [if_pos e1]; simp)), hm⟩
      · rw [if_neg e1] at hm; cases hm
    · rcases ccl_ok K q d1 sc1 hK htp y hm with h | ⟨v, hv, h⟩
      · exact Or.inl h
      · exact Or.inr ⟨v, List.mem_append.mpr (Or.inr hv), h⟩
/-- frames whose values, frames and rows are well: all that a collection asks -/
def Gd (x : Cx) (hp : Nat → Option Ob) (Kf : List Fr) : Prop := (∀ v ∈ allv Kf, VV x.K x.C hp v) ∧ (∀ e ∈ envs Kf, eok hp e) ∧ (∀ y ∈ cat Kf, (∃ m : Nat, y = gv (vnum (m : Int)) ∧ m ≤ 5000) ∨ ∃ v ∈ allv Kf, y = gv v) ∧ (∀ y ∈ ccl Kf, (∃ m : Nat, y = gv (vnum (m : Int)) ∧ m ≤ 5000) ∨ ∃ e ∈ envs Kf, y = some (.inr e)) ∧ (∀ v ∈ allv Kf, v ∈ cvl Kf ∨ gv v ∈ cat Kf) ∧ (∀ f ∈ Kf, f.1 ≤ 33) ∧ Kf.length ≤ 372 ∧ (cvl Kf).length ≤ 1500 ∧ (ccl Kf).length ≤ 60 ∧ (cat Kf).length ≤ 1488
theorem Cn_op : ∀ (Kf : List Fr) (p d : Nat) (sc : List (List Nat)), Cn x hp Kf p d sc → ∀ f ∈ Kf, f.1 ≤ 33
  | [], p, d, sc, _, f, h => by cases h
  | (op, i, rest, st, e, q, vs) :: K, p, d, sc, ⟨h1, h2, h3, h4, D, p1, h5, h6, h7, h8, h9, h10, h11⟩, f, h => by
    have hK : ∃ d1 sc1, Cn x hp K q d1 sc1 := by
      by_cases e1 : op = 33
      · obtain ⟨-, sc1, hK⟩ := h10 e1
        exact ⟨2, sc1, hK⟩
      · exact ⟨_, _, h11 e1⟩
    obtain ⟨d1, sc1, hK⟩ := hK
    rcases List.mem_cons.mp h with hm | hm
    · rw [hm]; exact FrK_op op h9
    · exact Cn_op K q d1 sc1 hK f hm
theorem Gd_cn {Kf : List Fr} {p0 d : Nat} {sc : List (List Nat)} (htp : x.tp ≤ 1400) (hK : Cn x hp Kf p0 d sc) (hd : 1 ≤ d) (hn : ncal Kf ≤ 30) : Gd x hp Kf := by
  obtain ⟨l1, l2, l3, l4⟩ := Cn_LB hK hd hn
  obtain ⟨a1, -, -, -, -, a6⟩ := Cn_all Kf p0 d sc hK
  refine ⟨a1, a6, fun y hy => ?_, fun y hy => ?_, fun v hv => allv_out Kf p0 d sc hK v hv, Cn_op Kf p0 d sc hK, l1, by omega, l3, l4⟩
  · rcases cat_ok Kf p0 d sc hK htp y hy with ⟨m, e, hm⟩ | h
    · exact Or.inl ⟨m, e, by omega⟩
    · exact Or.inr h
  · rcases ccl_ok Kf p0 d sc hK htp y hy with ⟨m, e, hm⟩ | h
    · exact Or.inl ⟨m, e, by omega⟩
    · exact Or.inr h
theorem Gd_X {Kf : List Fr} (h : Gd x hp Kf) : ∀ s, XK Kf s → s < 168 ∧ ∃ o, hp s = some o := by
  rintro s (⟨v, hv, hs⟩ | ⟨e, he, hs⟩)
  · exact VV_ref (h.1 v hv) hs
  · exact eref_ok (h.2.1 e he) hs
/-- what the class's rows hold is well, and roots of the frames -/
theorem rows_ok {Kf : List Fr} (hK : Gd x hp Kf) : (∀ y, (y ∈ (cvl Kf).map gv ∨ y ∈ ccl Kf ∨ y ∈ cat Kf) → gok hp y ∧ ∀ s, gref y = some s → XK Kf s) ∧ ∀ s, XK Kf s → ∃ y, (y ∈ (cvl Kf).map gv ∨ y ∈ ccl Kf ∨ y ∈ cat Kf) ∧ gref y = some s := by
  obtain ⟨a1, a6, a7, a8, a9, -⟩ := hK
  refine ⟨fun y hy => ?_, fun s hs => ?_⟩
  · rcases hy with hy | hy | hy
    · obtain ⟨v, hv, rfl⟩ := List.mem_map.mp hy
      have hv2 := cvl_in Kf v hv
      exact ⟨VV_gok (a1 v hv2), fun s hs => Or.inl ⟨v, hv2, hs⟩⟩
    · rcases a8 y hy with ⟨m, rfl, hm⟩ | ⟨e, he, rfl⟩
      · exact ⟨⟨by omega, by omega⟩, fun s hs => (by cases hs)⟩
      · exact ⟨eok_gok (a6 e he), fun s hs => Or.inr ⟨e, he, by rw [← gref_e]; exact hs⟩⟩
    · rcases a7 y hy with ⟨m, rfl, hm⟩ | ⟨v, hv, rfl⟩
      · exact ⟨⟨by omega, by omega⟩, fun s hs => (by cases hs)⟩
      · exact ⟨VV_gok (a1 v hv), fun s hs => Or.inl ⟨v, hv, hs⟩⟩
  · rcases hs with ⟨v, hv, hs⟩ | ⟨e, he, hs⟩
    · rcases a9 v hv with h | h
      · exact ⟨gv v, Or.inl (List.mem_map.mpr ⟨v, h, rfl⟩), hs⟩
      · exact ⟨gv v, Or.inr (Or.inr h), hs⟩
    · exact ⟨some (.inr e), Or.inr (Or.inl (envs_out Kf e he)), by rw [gref_e]; exact hs⟩
/-- the class collects -/
theorem c_gcR {Kf : List Fr} {R : SG → Prop} (hX : XC x G0 N) (hW : PW x sv rc hp out inp) (hK : Gd x hp Kf) (hn : 5000 ≤ n) (h : CG x G0 φ b lo hi sv rc hp out inp cn ((cvl Kf).map gv) (ccl Kf) (cat Kf) p G) (kk : ∀ φ1 b1 G1, CG x G0 φ1 b1 lo hi sv rc (gcK x Kf sv rc hp) out inp (cnG cn (usum (gcK x Kf sv rc hp) 168)) ((cvl Kf).map gv) (ccl Kf) (cat Kf) p G1 → G1 4 = G 4 → R G1) : V_X7_keepLive N n G R := by
  obtain ⟨⟨a1, a2, a3, a4, a5, a6, a7, a8, a9, a10, a11, a12, a13, a14, a15, a16⟩, b1, b2, b3, b4, b5, b6⟩ := h
  obtain ⟨l1, l2, l3, l4⟩ := hK.2.2.2.2.2.2
  obtain ⟨r1, r2⟩ := rows_ok hK
  have hPu := PW_HPu hX.1 hW (Gd_X hK)
  have hft := hX.2.2.2
  refine c_gc hPu hW.2.2.2.1 hX.1.1 hX.1.2.1 hX.2.1 hn hX.1.2.2.1.2.1 a7 a5 a6 rfl hW.2.2.2.2.2.2.1 a1 a2 (by omega) a3 b1 (by rw [List.length_map]; omega) b2 l3 b3 l4 r1 r2 (fun G1 φ1 b1' c1 c2 c3 c4 c5 c6 c7 c8 c9 c10 c11 c12 c13 => ?_)
  have e4 : G1 4 = G 4 := c13 4 (by decide) (by decide) (by decide) (by decide) (by decide)
  refine kk φ1 b1' G1 ⟨⟨c2, c3, c4, c9, c8, c1, c12.trans a7, ?_, ?_, ?_, c10, ?_, ?_, fun o ho => ?_, by rw [e4]; exact a15, by rw [e4]; exact a16⟩, c5, c6, c7, by rw [e4]; exact b4, by rw [e4]; exact b5, by rw [e4]; exact b6⟩ e4
  · rw [c13 6 (by decide) (by decide) (by decide) (by decide) (by decide)]; exact a8
  · rw [c13 5 (by decide) (by decide) (by decide) (by decide) (by decide)]; exact a9
  · rw [c11, a10]; rfl
  · rw [e4]; exact a12
  · rw [e4]; exact a13
  · rw [c13 o (by omega) (by omega) (by omega) (by omega) (by omega)]; exact a14 o ho
def kbf : List Fr → Nat → Option Nat
  | [], _ => none
  | (op, _, _, _, e, _, _) :: K, i => if i = K.length then (if op = 33 then some e else none) else kbf K i
theorem kbf_row : ∀ (Kf : List Fr) (g : St), (∀ f ∈ Kf, f.1 ≤ 33) → FrM g Kf → ∀ i, i < Kf.length → (kbf Kf i = none → ¬ g 15 i = 32) ∧ ∀ e, kbf Kf i = some e → g 15 i = 32 ∧ g 19 i = nI e ∧ e ∈ envs Kf
  | [], g, _, _, i, hi => absurd hi (Nat.not_lt_zero _)
  | (op, j, rest, st, e, q, vs) :: K, g, ho, ⟨a1, a2, a3, a4, a5, a6, a7⟩, i, hi => by
    have hop : op ≤ 33 := ho (op, j, rest, st, e, q, vs) List.mem_cons_self
    have hi : i < K.length + 1 := hi
    by_cases e2 : i = K.length
    · subst e2
      have ek : kbf ((op, j, rest, st, e, q, vs) :: K) K.length = if op = 33 then some e else none := if_pos rfl
      rw [ek]
      by_cases e1 : op = 33
      · rw [if_pos e1]
        refine ⟨fun c => (by cases c), fun e3 he => ?_⟩
        cases he
        refine ⟨a1.trans (by rw [e1]; rfl), a5.trans ?_, List.mem_append.mpr (Or.inl (by rw [if_pos e1]; simp))⟩
        show nI (if op = 33 then e else fe K) = nI e
        rw [if_pos e1]
      · rw [if_neg e1]
        exact ⟨fun _ c => e1 ((opR_33 hop).mp (a1.symm.trans c)), fun e3 he => (by cases he)⟩
    · have ek : kbf ((op, j, rest, st, e, q, vs) :: K) i = kbf K i := if_neg e2
      rw [ek]
      obtain ⟨z1, z2⟩ := kbf_row K g (fun f hf => ho f (List.mem_cons_of_mem _ hf)) a7 i (by omega)
      exact ⟨z1, fun e3 he => by obtain ⟨y1, y2, y4⟩ := z2 e3 he; exact ⟨y1, y2, List.mem_append.mpr (Or.inr y4)⟩⟩
theorem kbf_envs : ∀ (Kf : List Fr) (e : Nat), e ∈ envs Kf → ∃ i, i < Kf.length ∧ kbf Kf i = some e
  | [], e, h => by cases h
  | (op, j, rest, st, e1, q, vs) :: K, e, h => by
    have h : e ∈ (if op = 33 then [e1] else []) ++ envs K := h
    rcases List.mem_append.mp h with hm | hm
    · by_cases e2 : op = 33
      · rw [if_pos e2, List.mem_singleton] at hm
        subst hm
        refine ⟨K.length, by show K.length < K.length + 1; omega, ?_⟩
        show (if K.length = K.length then (if op = 33 then some e else none) else kbf K K.length) = some e
        rw [if_pos rfl, if_pos e2]
      · rw [if_neg e2] at hm; cases hm
    · obtain ⟨i, hi, he⟩ := kbf_envs K e hm
      refine ⟨i, by show i < K.length + 1; omega, ?_⟩
      show (if i = K.length then (if op = 33 then some e1 else none) else kbf K i) = some e
      rw [if_neg (by omega)]; exact he
theorem vl_mem {l : List Va} {i : Nat} (hi : i < l.length) : l.getD (l.length - 1 - i) none ∈ l := by
  have hl : l.length - 1 - i < l.length := by omega
  rw [List.getD_eq_getElem?_getD, List.getElem?_eq_getElem hl]; exact List.getElem_mem hl
theorem vl_at {l : List Va} {v : Va} (h : v ∈ l) : ∃ i, i < l.length ∧ l.getD (l.length - 1 - i) none = v := by
  obtain ⟨j, hj, e⟩ := List.getElem_of_mem h
  refine ⟨l.length - 1 - j, by omega, ?_⟩
  rw [show l.length - 1 - (l.length - 1 - j) = j by omega, List.getD_eq_getElem?_getD, List.getElem?_eq_getElem hj, e]; rfl
end RM
section RN
variable {x : Cx} {cv cf : Int32} {sv : Nat → Option Va} {rc : Nat → Va × Va} {hp : Nat → Option Ob} {out : List Nat} {inp : List Int} {cn : Nat → Int32} {g : St} {k : StL}
/-- the reference collects -/
theorem r_gcR {Kf : List Fr} {n : Nat} {post : St → StL → Prop} (hx : XOK x) (hW : PW x sv rc hp out inp) (hK : Gd x hp Kf) (hl2 : (allv Kf).length ≤ 1100) (hn : 6000 ≤ n) (hM : MW x cv cf sv rc hp out inp cn g k) (hMK : MK Kf g) (kk : ∀ g1, MW x cv cf sv rc (gcK x Kf sv rc hp) out inp (cnG cn (usum (gcK x Kf sv rc hp) 168)) g1 k → MK Kf g1 → (∀ i, i ≠ 4 → i ≠ 5 → i ≠ 6 → g1 0 i = g 0 i) → post g1 k) : V_X12_gather n g k post := by
  obtain ⟨b1, b2, b3, b4, b5, b6⟩ := id hMK
  obtain ⟨a1, a2, a3, a4, a5, a6, a7, a8, a9, a10, a11, a12, a13, a14, a15, a16, a17⟩ := id hM
  have hall := hK.1
  have hl1 := hK.2.2.2.2.2.2.1
  have hrn := hx.2.2.2.2.2.1
  refine r_gc (vp := (allv Kf).length) (top := Kf.length) (vl := fun i => (allv Kf).getD ((allv Kf).length - 1 - i) none) (kb := kbf Kf) (PW_HPu hx hW (Gd_X hK)) hn hx.2.2.1.2.1 (by omega) a3 a4 a5 ⟨b2, hl2, fun i hi => ⟨b5 i hi, hall _ (vl_mem hi)⟩⟩ ⟨b1, by omega, fun i hi => ?_⟩ (fun s => ⟨fun h => ?_, fun h => ?_⟩) (fun g1 m1 m2 m3 m4 m5 m6 => ?_)
  · obtain ⟨z1, z2⟩ := kbf_row Kf g hK.2.2.2.2.2.1 b4 i hi
    exact ⟨z1, fun e he => by obtain ⟨y1, y2, y3⟩ := z2 e he; exact ⟨y1, y2, hK.2.1 e y3⟩⟩
  · rcases h with ⟨v, hv, hs⟩ | ⟨e, he, hs⟩
    · obtain ⟨i, hi, e⟩ := vl_at hv
      exact Or.inl ⟨i, hi, by rw [e]; exact hs⟩
    · obtain ⟨i, hi, e1⟩ := kbf_envs Kf e he
      exact Or.inr ⟨i, e, hi, e1, hs⟩
  · rcases h with ⟨i, hi, hs⟩ | ⟨i, e, hi, he, hs⟩
    · exact Or.inl ⟨_, vl_mem hi, hs⟩
    · exact Or.inr ⟨e, ((kbf_row Kf g hK.2.2.2.2.2.1 b4 i hi).2 e he).2.2, hs⟩
  · have rw1 : ∀ c, c = 1 ∨ c = 2 ∨ c = 3 ∨ c = 4 ∨ c = 5 ∨ c = 6 ∨ c = 7 ∨ (15 ≤ c ∧ c ≤ 24) → g1 c = g c := fun c hc => m1 c (by omega) (by omega) (by omega)
    have sc1 : ∀ i, i ≠ 4 → i ≠ 5 → i ≠ 6 → g1 0 i = g 0 i := m2
    refine kk g1 ⟨(sc1 1 (by decide) (by decide) (by decide)).trans a1, fun i hi => ?_, ?_, ?_, m3, m4, (sc1 7 (by decide) (by decide) (by decide)).trans a7, (sc1 8 (by decide) (by decide) (by decide)).trans a8, ⟨(sc1 24 (by decide) (by decide) (by decide)).trans a9.1, fun i hi => ?_⟩, ⟨(sc1 25 (by decide) (by decide) (by decide)).trans a10.1, fun i hi => ?_⟩, ?_, m6, (sc1 19 (by decide) (by decide) (by decide)).trans a13, (sc1 21 (by decide) (by decide) (by decide)).trans a14, (sc1 22 (by decide) (by decide) (by decide)).trans a15, (sc1 23 (by decide) (by decide) (by decide)).trans a16, (sc1 0 (by decide) (by decide) (by decide)).trans a17⟩ ⟨(sc1 12 (by decide) (by decide) (by decide)).trans b1, (sc1 13 (by decide) (by decide) (by decide)).trans b2, (sc1 20 (by decide) (by decide) (by decide)).trans b3, FrM_fr Kf (fun c c1 c2 t ht => by rw [rw1 c (by omega)]) b4, VlM_fr (fun t ht => by rw [rw1 21 (by omega)]) b5, (sc1 18 (by decide) (by decide) (by decide)).trans b6⟩ sc1
    · rw [rw1 4 (by omega), rw1 5 (by omega)]; exact a2 i hi
    · rw [sc1 2 (by decide) (by decide) (by decide), rw1 1 (by omega), rw1 2 (by omega), rw1 3 (by omega)]; exact a3
    · refine ⟨(sc1 3 (by decide) (by decide) (by decide)).trans a4.1, fun i hi => ?_⟩
      rw [rw1 6 (by omega), rw1 7 (by omega)]; exact a4.2 i hi
    · rw [rw1 23 (by omega)]; exact a9.2 i hi
    · rw [rw1 24 (by omega)]; exact a10.2 i hi
    · rw [m5, a11]; rfl
theorem r_room {Kf : List Fr} {n m : Nat} {post : Int32 → St → StL → Prop} (hx : XOK x) (hW : PW x sv rc hp out inp) (hK : Gd x hp Kf) (hl2 : (allv Kf).length ≤ 1100) (hn : 6000 ≤ n) (hm : m ≤ 1000) (hM : MW x cv cf sv rc hp out inp cn g k) (hMK : MK Kf g)
    (k1 : usum (rmH x Kf sv rc hp m) 168 + m ≤ x.z → ∀ g1, MW x cv cf sv rc (rmH x Kf sv rc hp m) out inp (rmC x Kf sv rc hp cn m) g1 k → MK Kf g1 → (∀ i, i ≠ 4 → i ≠ 5 → i ≠ 6 → g1 0 i = g 0 i) → post 1 g1 k)
    (k0 : ¬ usum (rmH x Kf sv rc hp m) 168 + m ≤ x.z → ∀ g1, MW x cv cf sv rc (rmH x Kf sv rc hp m) out inp (rmC x Kf sv rc hp cn m) g1 k → g1 0 18 = 2 → post 0 g1 k) : V_X12_room n (nI m) g k post := by
  have h1 : g 0 1 = nI x.z := hM.1
  have h4 : g 0 4 = nI (usum hp 168) := hM.2.2.2.2.2.1
  have hz := hx.2.1
  have hu := hW.2.2.2.2.2.2.1
  unfold V_X12_room
  rw [h1, h4, nI_add]
  by_cases e : usum hp 168 + m ≤ x.z
  · have eH : rmH x Kf sv rc hp m = hp := if_pos e
    have eC : rmC x Kf sv rc hp cn m = cn := if_pos e
    rw [eH, eC] at k1
    refine ⟨fun _ => ⟨fun c => ?_, fun _ => k1 e g hM hMK (fun _ _ _ _ => rfl)⟩, fun c => absurd (nI_le e (by omega)) c⟩
    exact absurd ((nI_ltI (by omega) (by omega)).mp c) (by omega)
  · have eH : rmH x Kf sv rc hp m = gcK x Kf sv rc hp := if_neg e
    have eC : rmC x Kf sv rc hp cn m = cnG cn (usum (gcK x Kf sv rc hp) 168) := if_neg e
    rw [eH, eC] at k1 k0
    have hg := usum_gc hp (RtA x.sy x.rn sv rc (XK Kf)) 168
    have hg : usum (gcK x Kf sv rc hp) 168 ≤ usum hp 168 := hg
    refine ⟨fun c => absurd ((nI_leI (by omega) (by omega)).mp c) e, fun _ => r_gcR hx hW hK hl2 hn hM hMK (fun g1 m1 m2 m3 => ?_)⟩
    rw [m1.1, m1.2.2.2.2.2.1, nI_add]
    refine ⟨fun c => eqI (k0 (fun c2 => ?_) _ (MW_us m1 (by decide) (by decide) (by decide)) rfl), fun c => k1 ?_ g1 m1 m2 m3⟩
    · have := (nI_ltI (by omega) (by omega)).mp c; omega
    · rcases Nat.lt_or_ge x.z (usum (gcK x Kf sv rc hp) 168 + m) with z | z
      · exact absurd ((nI_ltI (by omega) (by omega)).mpr z) c
      · exact z
/-- the world when room was asked for -/
theorem PW_rm {Kf : List Fr} {m : Nat} (hx : XOK x) (hW : PW x sv rc hp out inp) (hK : Gd x hp Kf) : PW x sv rc (rmH x Kf sv rc hp m) out inp := by
  by_cases e : usum hp 168 + m ≤ x.z
  · rw [show rmH x Kf sv rc hp m = hp from if_pos e]; exact hW
  · rw [show rmH x Kf sv rc hp m = gcK x Kf sv rc hp from if_neg e]; exact PW_gc hx hW (Gd_X hK)
/-- frames whose roots are among those that stay -/
theorem Cn_rm {Kf K1 : List Fr} {p0 d m : Nat} {sc : List (List Nat)} (hX : ∀ s, XK K1 s → XK Kf s) (hK : Cn x hp K1 p0 d sc) : Cn x (rmH x Kf sv rc hp m) K1 p0 d sc := by
  by_cases e : usum hp 168 + m ≤ x.z
  · rw [show rmH x Kf sv rc hp m = hp from if_pos e]; exact hK
  · rw [show rmH x Kf sv rc hp m = gcK x Kf sv rc hp from if_neg e]
    refine Cn_tr K1 p0 d sc (fun v hv hvv => VV_live hvv (fun s hs => Live_rt (Or.inr (Or.inr (hX s (Or.inl ⟨v, hv, hs⟩)))))) (fun e he sc2 hE => ?_) hK
    exact EnvR_live sc2 e (fun s hs => Live_rt (Or.inr (Or.inr (hX s (Or.inr ⟨e, he, hs⟩))))) hE
theorem XK_tl {f : Fr} {K : List Fr} : ∀ s, XK K s → XK (f :: K) s := by
  obtain ⟨op, i, rest, st, e, q, vs⟩ := f
  rintro s (⟨v, hv, hs⟩ | ⟨e2, he, hs⟩)
  · exact Or.inl ⟨v, List.mem_append.mpr (Or.inr hv), hs⟩
  · exact Or.inr ⟨e2, List.mem_append.mpr (Or.inr he), hs⟩
theorem rmC_at {Kf : List Fr} {m j : Nat} (h0 : j ≠ 0) (h1 : j ≠ 1) : rmC x Kf sv rc hp cn m j = cn j := by
  unfold rmC
  split
  · rfl
  · unfold cnG; rw [cnU_ne _ _ h1, cnU_ne _ _ h0]
theorem CtK_rm {Kf K1 : List Fr} {m m1 : Nat} (h : CtK m1 K1 cn) : CtK m1 K1 (rmC x Kf sv rc hp cn m) := by
  obtain ⟨st, dp, c1, c2, c3⟩ := h
  exact ⟨st, dp, (rmC_at (by decide) (by decide)).trans c1, (rmC_at (by decide) (by decide)).trans c2, c3⟩
/-- a value or a frame that is a root stays -/
theorem VV_rm {Kf : List Fr} {m : Nat} {v : Va} (h : VV x.K x.C hp v) (hv : v ∈ allv Kf) : VV x.K x.C (rmH x Kf sv rc hp m) v := by
  by_cases e : usum hp 168 + m ≤ x.z
  · rw [show rmH x Kf sv rc hp m = hp from if_pos e]; exact h
  · rw [show rmH x Kf sv rc hp m = gcK x Kf sv rc hp from if_neg e]
    exact VV_live h (fun s hs => Live_rt (Or.inr (Or.inr (Or.inl ⟨v, hv, hs⟩))))
theorem hp_rm {Kf : List Fr} {m s : Nat} {o : Ob} (h : hp s = some o) (hv : XK Kf s) : rmH x Kf sv rc hp m s = some o := by
  by_cases e : usum hp 168 + m ≤ x.z
  · rw [show rmH x Kf sv rc hp m = hp from if_pos e]; exact h
  · rw [show rmH x Kf sv rc hp m = gcK x Kf sv rc hp from if_neg e]
    show gcH hp _ s = some o
    rw [gcH_y (Live_rt (Or.inr (Or.inr hv)))]; exact h
end RN
section RO
variable {x : Cx} {G0 G : SG} {N : Nat} {φ : Nat → Nat} {b lo hi : Nat} {sv : Nat → Option Va} {rc : Nat → Va × Va} {hp : Nat → Option Ob} {out : List Nat} {inp : List Int} {cn : Nat → Int32} {LV LC LK : List Gw} {p n i : Nat} {post : Int32 → SG → Prop}
/-- an instruction that makes m words -/
theorem i_mk {Kf : List Fr} {m : Nat} (hX : XC x G0 N) (hW : PW x sv rc hp out inp) (hK : Gd x hp Kf) (hn : 5000 ≤ n) (hii : i < 1000000) (hm0 : 0 < m) (hm : m ≤ 1000) (h : CG x G0 φ b lo hi sv rc hp out inp cn ((cvl Kf).map gv) (ccl Kf) (cat Kf) p G)
    (k1 : usum (rmH x Kf sv rc hp m) 168 + m ≤ x.z → ∀ φ1 b1 G1 n1 i1, CG x G0 φ1 b1 lo hi sv rc (rmH x Kf sv rc hp m) out inp (rmC x Kf sv rc hp cn m) ((cvl Kf).map gv) (ccl Kf) (cat Kf) p G1 → n ≤ n1 → i1 ≤ i + 1 → V_X7_run_32 N post n1 (nI i1) G1)
    (k0 : ¬ usum (rmH x Kf sv rc hp m) 168 + m ≤ x.z → ∀ φ1 b1 G1, CE x G0 φ1 b1 lo hi sv rc (rmH x Kf sv rc hp m) out inp (rmC x Kf sv rc hp cn m) 2 G1 → V_X7_run_32 N post n (nI (i + 1)) G1)
    (adv : ¬ usum hp 168 + m ≤ x.z → ∀ G1 (R : SG → Prop), CG x G0 φ b lo hi sv rc hp out inp cn ((cvl Kf).map gv) (ccl Kf) (cat Kf) p G1 → G1 4 0 3 = 0 → (∀ p1 G2, CG x G0 φ b lo hi sv rc hp out inp cn ((cvl Kf).map gv) (ccl Kf) (cat Kf) p1 G2 → G2 4 0 3 = nI m → R G2) → V_X7_advance N n G1 R) : V_X7_run_32 N post (n + 1) (nI i) G := by
  by_cases e : usum hp 168 + m ≤ x.z
  · have eH : rmH x Kf sv rc hp m = hp := if_pos e
    have eC : rmC x Kf sv rc hp cn m = cn := if_pos e
    rw [eH, eC] at k1
    exact k1 e φ b G (n + 1) i h (by omega) (by omega)
  · have eH : rmH x Kf sv rc hp m = gcK x Kf sv rc hp := if_neg e
    have eC : rmC x Kf sv rc hp cn m = cnG cn (usum (gcK x Kf sv rc hp) 168) := if_neg e
    rw [eH, eC] at k1 k0
    have hz := hX.1.2.1
    have hu := hW.2.2.2.2.2.2.1
    have hg := usum_gc hp (RtA x.sy x.rn sv rc (XK Kf)) 168
    have hg : usum (gcK x Kf sv rc hp) 168 ≤ usum hp 168 := hg
    refine c_loop hii h.2.2.2.2.2.1 h.2.2.2.2.2.2 (adv e _ _ (CGwt (w := 0) h) rfl (fun p1 G2 h2 w2 => ?_))
    refine ⟨fun c => absurd c (by rw [w2]; exact nI_nle hm0 (by omega)), fun _ => ?_⟩
    rw [h.2.2.2.2.1]
    refine eqI (c_gcR hX hW hK hn (CGpc (p1 := p) h2) (fun φ1 b1 G3 h3 e4 => ?_))
    have e43 : G3 4 0 3 = nI m := by rw [e4]; exact w2
    unfold V_X2_hasRoom
    rw [e43, h3.1.2.2.2.1, h3.1.2.2.2.2.2.2.1, nI_add]
    obtain ⟨l1, l2, l3, l4⟩ := hK.2.2.2.2.2.2
    refine ⟨fun c => eqI ⟨fun _ => eqI (eqI ?_), fun c => absurd rfl c⟩, fun c => eqI ⟨fun c => absurd c (by decide), fun _ => eqI (eqI ?_)⟩⟩
    · rw [show uo G3 2 (G3 2) = G3 from uo_id rfl, nI_1]
      have hlt := (nI_ltI (by omega) (by omega)).mp c
      exact k0 (by omega) φ1 b1 _ (CGflt (e := 2) h3 ⟨by rw [List.length_map]; omega, l3, l4⟩)
    · rw [show uo G3 2 (G3 2) = G3 from uo_id rfl, nI_1]
      have hge : usum (gcK x Kf sv rc hp) 168 + m ≤ x.z := by
        rcases Nat.lt_or_ge x.z (usum (gcK x Kf sv rc hp) 168 + m) with z | z
        · exact absurd ((nI_ltI (by omega) (by omega)).mpr z) c
        · exact z
      refine k1 hge φ1 b1 _ n (i + 1) ?_ (Nat.le_refl _) (Nat.le_refl _)
      obtain ⟨a, d1, d2, d3, d4, d5, d6⟩ := h3
      refine ⟨CWd_4 a (fun o h4 _ _ _ => uoN h4) (fun j _ _ j2 _ => ?_), d1, d2, d3, d4, d5, rfl⟩
      show us (G3 4) 2 0 0 j = _
      exact us4 _ _ j2
end RO
