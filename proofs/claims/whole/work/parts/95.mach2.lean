-- ===== the machine in the middle: frames =====
section FRL
variable {x : Cx} {hp hp1 : Nat → Option Ob}
theorem Chn_mono : ∀ (n m p q : Nat), n ≤ m → Chn x n p q → Chn x m p q
  | 0, 0, p, q, _, h => h
  | 0, m + 1, p, q, _, h => Or.inl h
  | n + 1, 0, p, q, hn, h => absurd hn (by omega)
  | n + 1, m + 1, p, q, hn, h => by
    rcases h with h | ⟨h1, h2, r, h3, h4, h5⟩
    · exact Or.inl h
    · exact Or.inr ⟨h1, h2, r, h3, h4, Chn_mono n m r q (by omega) h5⟩
theorem Cn_mono : ∀ (Kf : List Fr) (p d d1 : Nat) (sc : List (List Nat)), d1 ≤ d → Cn x hp Kf p d sc → Cn x hp Kf p d1 sc
  | [], p, d, d1, sc, hd, ⟨h1, h2, p1, h3, h4⟩ => ⟨h1, by omega, p1, Chn_mono _ _ _ _ (by omega) h3, h4⟩
  | (op, i, rest, st, e, q, vs) :: K, p, d, d1, sc, hd, ⟨h1, h2, h3, h4, D, p1, h5, h6, h7, h8⟩ => ⟨h1, h2, h3, h4, D, p1, by omega, h6, Chn_mono _ _ _ _ (by omega) h7, h8⟩
theorem Cn_jmp : ∀ (Kf : List Fr) (p q d : Nat) (sc : List (List Nat)), p + 1 < x.tp → x.c p = 8 → x.c (p + 1) = nI q → q < 1536 → d ≤ 12 → Cn x hp Kf q (d + 1) sc → Cn x hp Kf p d sc
  | [], p, q, d, sc, a1, a2, a3, a4, a5, ⟨h1, h2, p1, h3, h4⟩ => by
    refine ⟨h1, by omega, p1, ?_, h4⟩
    rw [show 13 - d = (13 - (d + 1)) + 1 by omega]
    exact Or.inr ⟨a1, a2, q, a3, a4, h3⟩
  | (op, i, rest, st, e, q1, vs) :: K, p, q, d, sc, a1, a2, a3, a4, a5, ⟨h1, h2, h3, h4, D, p1, h5, h6, h7, h8⟩ => by
    refine ⟨h1, h2, h3, h4, D, p1, by omega, h6, ?_, h8⟩
    rw [show 13 - d = (13 - (d + 1)) + 1 by omega]
    exact Or.inr ⟨a1, a2, q, a3, a4, h7⟩
theorem Cn_env : ∀ (Kf : List Fr) (p d : Nat) (sc : List (List Nat)), Cn x hp Kf p d sc → EnvR x.r0 x.C hp (fe Kf) sc
  | [], p, d, sc, h => by rw [h.1]; rfl
  | (op, i, rest, st, e, q, vs) :: K, p, d, sc, ⟨h1, h2, h3, h4, D, p1, h5, h6, h7, h8, h9, h10, h11⟩ => by
    show EnvR x.r0 x.C hp (if op = 33 then e else fe K) sc
    by_cases e1 : op = 33
    · rw [if_pos e1]; exact (h10 e1).1
    · rw [if_neg e1]; exact Cn_env K q (D + 1) sc (h11 e1)
theorem Cn_len : ∀ (Kf : List Fr) (p d : Nat) (sc : List (List Nat)), Cn x hp Kf p d sc → Kf.length + d ≤ 12 * (ncal Kf + 1) + 1
  | [], p, d, sc, h => by
    have := h.2.1
    show 0 + d ≤ 12 * (0 + 1) + 1
    omega
  | (op, i, rest, st, e, q, vs) :: K, p, d, sc, ⟨h1, h2, h3, h4, D, p1, h5, h6, h7, h8, h9, h10, h11⟩ => by
    show K.length + 1 + d ≤ 12 * ((if op = 33 then 1 else 0) + ncal K + 1) + 1
    by_cases e1 : op = 33
    · obtain ⟨-, sc1, hK⟩ := h10 e1
      have := Cn_len K q 2 sc1 hK
      subst e1
      rw [if_pos rfl]
      rcases h9 with ⟨-, -, hD, -⟩ | ⟨hlt, -⟩
      · omega
      · omega
    · have := Cn_len K q (D + 1) sc (h11 e1)
      rw [if_neg e1]
      omega
theorem FrK_vs {D p i st q : Nat} {sc : List (List Nat)} {rest : List Nat} {vs : List Va} : ∀ (op : Nat), FrK x D p sc i rest st q vs op → vs.length ≤ 4 ∧ (op = 7 ∧ st = 1 → vs.length = 1)
  | 0, h => ⟨by have := h.1; omega, fun c => absurd c.1 (by decide)⟩
  | 1, h => h.elim
  | 2, h => ⟨by rw [h.1]; exact Nat.zero_le _, fun c => absurd c.1 (by decide)⟩
  | 3, h => ⟨by rw [h.1]; exact Nat.zero_le _, fun c => absurd c.1 (by decide)⟩
  | 4, h => ⟨by rw [h.1]; exact Nat.zero_le _, fun c => absurd c.1 (by decide)⟩
  | 5, h => ⟨by rw [h.1]; exact Nat.zero_le _, fun c => absurd c.1 (by decide)⟩
  | 6, h => h.elim
  | 7, h => by
    obtain ⟨p2, -, -, ⟨h1, h2, -⟩ | ⟨h1, ⟨t, h2⟩, -⟩⟩ := h
    · exact ⟨by rw [h2]; exact Nat.zero_le _, fun c => absurd (h1.symm.trans c.2) (by decide)⟩
    · exact ⟨by rw [h2]; show 1 ≤ 4; decide, fun _ => by rw [h2]; rfl⟩
  | 8, h => ⟨by have := h.1; omega, fun c => absurd c.1 (by decide)⟩
  | op + 9, h => by
    rcases h with ⟨-, h, -⟩ | ⟨-, -, -, h, -⟩
    · exact ⟨by rw [h]; exact Nat.zero_le _, fun c => absurd c.1 (by omega)⟩
    · exact ⟨by omega, fun c => absurd c.1 (by omega)⟩
theorem Cn_all : ∀ (Kf : List Fr) (p d : Nat) (sc : List (List Nat)), Cn x hp Kf p d sc → (∀ v ∈ allv Kf, VV x.K x.C hp v) ∧ (allv Kf).length ≤ 4 * Kf.length ∧ (cvl Kf).length ≤ (allv Kf).length ∧ (cat Kf).length ≤ 4 * Kf.length ∧ (ccl Kf).length = 2 * ncal Kf ∧ (∀ e ∈ envs Kf, eok hp e)
  | [], p, d, sc, h => ⟨fun v hv => (by cases hv), Nat.le_refl _, Nat.le_refl _, Nat.le_refl _, rfl, fun e he => (by cases he)⟩
  | (op, i, rest, st, e, q, vs) :: K, p, d, sc, ⟨h1, h2, h3, h4, D, p1, h5, h6, h7, h8, h9, h10, h11⟩ => by
    have hK : ∃ d1 sc1, Cn x hp K q d1 sc1 := by
      by_cases e1 : op = 33
      · obtain ⟨-, sc1, hK⟩ := h10 e1
        exact ⟨2, sc1, hK⟩
      · exact ⟨_, _, h11 e1⟩
    obtain ⟨d1, sc1, hK⟩ := hK
    obtain ⟨a1, a2, a3, a4, a5, a6⟩ := Cn_all K q d1 sc1 hK
    obtain ⟨b1, b2⟩ := FrK_vs op h9
    refine ⟨fun v hv => ?_, ?_, ?_, ?_, ?_, fun e2 he => ?_⟩
    · rcases List.mem_append.mp hv with hv | hv
      · exact h1 v hv
      · exact a1 v hv
    · show (vs ++ allv K).length ≤ 4 * (K.length + 1)
      rw [List.length_append]; omega
    · show ((if op = 7 then [] else vs) ++ cvl K).length ≤ (vs ++ allv K).length
      rw [List.length_append, List.length_append]
      have : (if op = 7 then ([] : List Va) else vs).length ≤ vs.length := by
        split
        · exact Nat.zero_le _
        · exact Nat.le_refl _
      omega
    · show ((if op = 7 ∧ st = 1 then gv (vnum (q : Int)) :: gv (vnum ((2 * ncal K : Nat) : Int)) :: gv (vnum ((cvl K).length : Int)) :: vs.map (fun v => gv v) else []) ++ cat K).length ≤ 4 * (K.length + 1)
      rw [List.length_append]
      by_cases e1 : op = 7 ∧ st = 1
      · rw [if_pos e1]
        have := b2 e1
        simp only [List.length_cons, List.length_map]
        omega
      · rw [if_neg e1]
        show 0 + (cat K).length ≤ _
        omega
    · show ((if op = 33 then [gv (vnum (q : Int)), (some (Sum.inr e) : Gw)] else []) ++ ccl K).length = 2 * ((if op = 33 then 1 else 0) + ncal K)
      rw [List.length_append]
      by_cases e1 : op = 33
      · rw [if_pos e1, if_pos e1]
        show 2 + (ccl K).length = _
        omega
      · rw [if_neg e1, if_neg e1]
        show 0 + (ccl K).length = _
        omega
    · have he : e2 ∈ (if op = 33 then [e] else []) ++ envs K := he
      rcases List.mem_append.mp he with he | he
      · by_cases e1 : op = 33
        · rw [if_pos e1, List.mem_singleton] at he
          rw [he]; exact EnvR_ok (h10 e1).1
        · rw [if_neg e1] at he; cases he
      · exact a6 e2 he
theorem Cn_tr : ∀ (Kf : List Fr) (p d : Nat) (sc : List (List Nat)), (∀ v ∈ allv Kf, VV x.K x.C hp v → VV x.K x.C hp1 v) → (∀ e ∈ envs Kf, ∀ sc, EnvR x.r0 x.C hp e sc → EnvR x.r0 x.C hp1 e sc) → Cn x hp Kf p d sc → Cn x hp1 Kf p d sc
  | [], p, d, sc, _, _, h => h
  | (op, i, rest, st, e, q, vs) :: K, p, d, sc, hv, he, ⟨h1, h2, h3, h4, D, p1, h5, h6, h7, h8, h9, h10, h11⟩ => by
    have hv2 : ∀ v ∈ allv K, VV x.K x.C hp v → VV x.K x.C hp1 v := fun v m => hv v (List.mem_append.mpr (Or.inr m))
    have he2 : ∀ e ∈ envs K, ∀ sc, EnvR x.r0 x.C hp e sc → EnvR x.r0 x.C hp1 e sc := fun e m => he e (List.mem_append.mpr (Or.inr m))
    refine ⟨fun v m => hv v (List.mem_append.mpr (Or.inl m)) (h1 v m), h2, h3, h4, D, p1, h5, h6, h7, h8, h9, fun e1 => ?_, fun e1 => Cn_tr K q (D + 1) sc hv2 he2 (h11 e1)⟩
    obtain ⟨b1, sc1, b2⟩ := h10 e1
    refine ⟨he e (List.mem_append.mpr (Or.inl ?_)) sc b1, sc1, Cn_tr K q 2 sc1 hv2 he2 b2⟩
    rw [if_pos e1]; exact List.mem_singleton.mpr rfl
theorem Lst_hdl {rc : Nat → Va × Va} {l : List Nat} {v : Va} (h : Lst rc v l) : Lst rc (hdl l) l := by
  cases l with
  | nil => rfl
  | cons i l => exact ⟨⟨0, rfl⟩, h.2⟩
theorem enc_hdl {rc : Nat → Va × Va} {l : List Nat} {v : Va} (h : Lst rc v l) : enc v = enc (hdl l) := by
  cases l with
  | nil => rw [show v = vnil from h]; rfl
  | cons i l => obtain ⟨⟨c, e⟩, -⟩ := h; rw [e]; rfl
theorem LsC_tl {i : Nat} {l : List Nat} (h : LsC x (i :: l)) : LsC x l := ⟨Lst_hdl h.1.2, fun y hy => h.2 y (by simp [hy])⟩
/-- the roots that frames have -/
def XK (Kf : List Fr) (s : Nat) : Prop := (∃ v ∈ allv Kf, vref v = some s) ∨ ∃ e ∈ envs Kf, eref e = some s
theorem cat_in : ∀ (Kf : List Fr) (y : Gw), y ∈ cat Kf → (∃ n : Nat, y = gv (vnum (n : Int))) ∨ ∃ v ∈ allv Kf, y = gv v
  | [], y, h => by cases h
  | (op, i, rest, st, e, q, vs) :: K, y, h => by
    have h : y ∈ (if op = 7 ∧ st = 1 then some (.inl (vnum (q : Int))) :: some (.inl (vnum ((2 * ncal K : Nat) : Int))) :: some (.inl (vnum ((cvl K).length : Int))) :: vs.map (fun v => some (.inl v)) else []) ++ cat K := h
    rcases List.mem_append.mp h with h | h
    · by_cases e1 : op = 7 ∧ st = 1
      · rw [if_pos e1] at h
        simp only [List.mem_cons, List.mem_map] at h
        rcases h with h | h | h | ⟨v, hv, h⟩
        · exact Or.inl ⟨q, h⟩
        · exact Or.inl ⟨_, h⟩
        · exact Or.inl ⟨_, h⟩
        · exact Or.inr ⟨v, List.mem_append.mpr (Or.inl hv), h.symm⟩
      · rw [if_neg e1] at h; cases h
    · rcases cat_in K y h with h | ⟨v, hv, h⟩
      · exact Or.inl h
      · exact Or.inr ⟨v, List.mem_append.mpr (Or.inr hv), h⟩
theorem ccl_in : ∀ (Kf : List Fr) (y : Gw), y ∈ ccl Kf → (∃ n : Nat, y = gv (vnum (n : Int))) ∨ ∃ e ∈ envs Kf, y = some (.inr e)
  | [], y, h => by cases h
  | (op, i, rest, st, e, q, vs) :: K, y, h => by
    have h : y ∈ (if op = 33 then [some (.inl (vnum (q : Int))), some (.inr e)] else []) ++ ccl K := h
    rcases List.mem_append.mp h with h | h
    · by_cases e1 : op = 33
      · rw [if_pos e1] at h
        simp only [List.mem_cons, List.not_mem_nil, or_false] at h
        rcases h with h | h
        · exact Or.inl ⟨q, h⟩
        · exact Or.inr ⟨e, List.mem_append.mpr (Or.inl (by rw [if_pos e1]; simp)), h⟩
      · rw [if_neg e1] at h; cases h
    · rcases ccl_in K y h with h | ⟨v, hv, h⟩
      · exact Or.inl h
      · exact Or.inr ⟨v, List.mem_append.mpr (Or.inr hv), h⟩
theorem cvl_in : ∀ (Kf : List Fr) (v : Va), v ∈ cvl Kf → v ∈ allv Kf
  | [], v, h => by cases h
  | (op, i, rest, st, e, q, vs) :: K, v, h => by
    have h : v ∈ (if op = 7 then [] else vs) ++ cvl K := h
    rcases List.mem_append.mp h with h | h
    · by_cases e1 : op = 7
      · rw [if_pos e1] at h; cases h
      · rw [if_neg e1] at h; exact List.mem_append.mpr (Or.inl h)
    · exact List.mem_append.mpr (Or.inr (cvl_in K v h))
theorem allv_out : ∀ (Kf : List Fr) (p d : Nat) (sc : List (List Nat)), Cn x hp Kf p d sc → ∀ v, v ∈ allv Kf → v ∈ cvl Kf ∨ gv v ∈ cat Kf
  | [], p, d, sc, _, v, h => by cases h
  | (op, i, rest, st, e, q, vs) :: K, p, d, sc, ⟨h1, h2, h3, h4, D, p1, h5, h6, h7, h8, h9, h10, h11⟩, v, h => by
    have hK : ∃ d1 sc1, Cn x hp K q d1 sc1 := by
      by_cases e1 : op = 33
      · obtain ⟨-, sc1, hK⟩ := h10 e1
        exact ⟨2, sc1, hK⟩
      · exact ⟨_, _, h11 e1⟩
    obtain ⟨d1, sc1, hK⟩ := hK
    rcases List.mem_append.mp h with hm | hm
    · by_cases e1 : op = 7
      · subst e1
        obtain ⟨p2, -, -, ⟨a1, a2, -⟩ | ⟨a1, a2, -⟩⟩ := h9
        · rw [a2] at hm; cases hm
        · refine Or.inr (List.mem_append.mpr (Or.inl ?_))
          rw [if_pos ⟨rfl, a1⟩]
          simp only [List.mem_cons, List.mem_map]
          exact Or.inr (Or.inr (Or.inr ⟨v, hm, rfl⟩))
      · exact Or.inl (List.mem_append.mpr (Or.inl (by rw [if_neg e1]; exact hm)))
    · rcases allv_out K q d1 sc1 hK v hm with h | h
      · exact Or.inl (List.mem_append.mpr (Or.inr h))
      · exact Or.inr (List.mem_append.mpr (Or.inr h))
theorem envs_out : ∀ (Kf : List Fr) (e : Nat), e ∈ envs Kf → some (.inr e) ∈ ccl Kf
  | [], e, h => by cases h
  | (op, i, rest, st, e1, q, vs) :: K, e, h => by
    have h : e ∈ (if op = 33 then [e1] else []) ++ envs K := h
    rcases List.mem_append.mp h with h | h
    · by_cases e2 : op = 33
      · rw [if_pos e2, List.mem_singleton] at h
        subst h
        exact List.mem_append.mpr (Or.inl (by rw [if_pos e2]; simp))
      · rw [if_neg e2] at h; cases h
    · exact List.mem_append.mpr (Or.inr (envs_out K e h))
end FRL
section PWL
variable {x : Cx} {sv : Nat → Option Va} {rc : Nat → Va × Va} {hp : Nat → Option Ob} {out : List Nat} {inp : List Int}
theorem PW_HPu {X : Nat → Prop} (hx : XOK x) (h : PW x sv rc hp out inp) (hX : ∀ s, X s → s < 168 ∧ ∃ o, hp s = some o) : HPu x.sy x.rn x.nam sv rc x.K x.C hp X x.c x.tp x.ent := by
  obtain ⟨h1, h2, h3, h4, h5, h6, -⟩ := h
  obtain ⟨-, -, -, x4, x5, -, x7⟩ := hx
  refine ⟨h1, h2, fun i hi => ?_, h5, fun s o ho => ?_, hX, by omega, fun i y hy => (x5 i y hy).1⟩
  · rw [h3 i hi]; exact (x4 i hi).2.2
  · obtain ⟨a, b⟩ := h6 s o ho
    exact ⟨a, ObR_tr2 (Nat.le_refl _) (fun _ _ => rfl) (fun i hi => ⟨hi, h3 i hi⟩) (fun _ _ => rfl) (fun _ h => h) (fun _ _ => rfl) o (fun v _ hv => hv) (fun sc he => EnvR_tr (fun i hi => ⟨hi, h3 i hi⟩) (fun s p q l h => ⟨l, h, rfl⟩) sc _ he) b⟩
theorem XK_ok {Kf : List Fr} {p d : Nat} {sc : List (List Nat)} (h : Cn x hp Kf p d sc) : ∀ s, XK Kf s → s < 168 ∧ ∃ o, hp s = some o := by
  obtain ⟨h1, -, -, -, -, h6⟩ := Cn_all Kf p d sc h
  rintro s (⟨v, hv, hs⟩ | ⟨e, he, hs⟩)
  · exact VV_ref (h1 v hv) hs
  · exact eref_ok (h6 e he) hs
/-- the world after a collection -/
theorem PW_gc {X : Nat → Prop} (hx : XOK x) (h : PW x sv rc hp out inp) (hX : ∀ s, X s → s < 168 ∧ ∃ o, hp s = some o) : PW x sv rc (gcH hp (RtA x.sy x.rn sv rc X)) out inp := by
  have hH := HPu_gc (PW_HPu hx h hX)
  obtain ⟨h1, h2, h3, h4, h5, h6, h7, h8, h9⟩ := h
  obtain ⟨g1, g2, g3, g4, g5, g6, -⟩ := hH
  refine ⟨g1, g2, h3, h4, h5, fun s o ho => ?_, ?_, h8, h9⟩
  · obtain ⟨a, b⟩ := g5 s o ho
    exact ⟨a, ObR_tr2 (Nat.le_refl _) (fun _ _ => rfl) (fun i hi => ⟨hi, (h3 i hi).symm⟩) (fun i hi => by rw [h3 i hi]) (fun _ h => h) (fun _ _ => rfl) o (fun v _ hv => hv) (fun sc he => EnvR_tr (fun i hi => ⟨hi, (h3 i hi).symm⟩) (fun s p q l h => ⟨l, h, rfl⟩) sc _ he) b⟩
  · have := usum_gc hp (RtA x.sy x.rn sv rc X) 168
    omega
theorem Cn_gc {Kf : List Fr} {p d : Nat} {sc : List (List Nat)} (h : Cn x hp Kf p d sc) : Cn x (gcH hp (RtA x.sy x.rn sv rc (XK Kf))) Kf p d sc := by
  refine Cn_tr Kf p d sc (fun v hv hvv => VV_live hvv (fun s hs => Live_rt (Or.inr (Or.inr (Or.inl ⟨v, hv, hs⟩))))) (fun e he sc2 hE => ?_) h
  exact EnvR_live sc2 e (fun s hs => Live_rt (Or.inr (Or.inr (Or.inr ⟨e, he, hs⟩)))) hE
end PWL
