-- ===== something is made =====
theorem VV_add {K : Nat → Nat → Prop} {C : Nat → Prop} {hp : Nat → Option Ob} {s : Nat} {o : Ob} {v : Va} (hn : hp s = none) (h : VV K C hp v) : VV K C (hset hp s o) v := by
  rcases v with _ | v | v | ⟨v, v2⟩ | v | v | v
  · trivial
  · exact h
  · exact h
  · exact h
  · obtain ⟨h1, a, d, h2⟩ := h
    exact ⟨h1, a, d, by rw [hset_ne _ _ (fun e => by rw [e, hn] at h2; cases h2)]; exact h2⟩
  · obtain ⟨h1, l, h2⟩ := h
    exact ⟨h1, l, by rw [hset_ne _ _ (fun e => by rw [e, hn] at h2; cases h2)]; exact h2⟩
  · obtain ⟨h1, r, e0, h2⟩ := h
    exact ⟨h1, r, e0, by rw [hset_ne _ _ (fun e => by rw [e, hn] at h2; cases h2)]; exact h2⟩
theorem frm_add {hp : Nat → Option Ob} {s : Nat} {o : Ob} (hn : hp s = none) : ∀ t p q l, hp t = some (ofrm p q l) → ∃ l1, hset hp s o t = some (ofrm p q l1) ∧ l1.length = l.length := fun t p q l h => ⟨l, by rw [hset_ne _ _ (fun e => by rw [e, hn] at h; cases h)]; exact h, rfl⟩
theorem free_ex {hp : Nat → Option Ob} (hl : ∀ t o, hp t = some o → 1 ≤ olen o) (hu : usum hp 168 ≤ 167) : ∃ s, s < 168 ∧ hp s = none ∧ ∀ t, t < s → hp t ≠ none := by
  have h1 : ∀ n, (∀ t, t < n → hp t ≠ none) → n ≤ usum hp n := by
    intro n
    induction n with
    | zero => intro _; exact Nat.zero_le _
    | succ n ih =>
      intro h
      have h2 := ih (fun t ht => h t (by omega))
      show n + 1 ≤ usum hp n + (match hp n with | some o => olen o | none => 0)
      cases e : hp n with
      | none => exact absurd e (h n (by omega))
      | some o => have := hl n o e; show n + 1 ≤ usum hp n + olen o; omega
  have h2 : ∀ n, n ≤ 168 → (∀ t, t < n → hp t ≠ none) ∨ ∃ s, s < n ∧ hp s = none ∧ ∀ t, t < s → hp t ≠ none := by
    intro n
    induction n with
    | zero => intro _; exact Or.inl (fun t ht => absurd ht (Nat.not_lt_zero _))
    | succ n ih =>
      intro hn
      rcases ih (by omega) with h | ⟨s, a, b1, c⟩
      · cases e : hp n with
        | none => exact Or.inr ⟨n, by omega, e, h⟩
        | some o =>
          refine Or.inl (fun t ht => ?_)
          by_cases e2 : t = n
          · subst e2; rw [e]; exact fun c => (by cases c)
          · exact h t (by omega)
      · exact Or.inr ⟨s, by omega, b1, c⟩
  rcases h2 168 (Nat.le_refl _) with h | h
  · have := h1 168 h; omega
  · exact h
theorem olen_1 (o : Ob) : 1 ≤ olen o := by rcases o with ⟨a, d⟩ | l | ⟨r, e⟩ | ⟨p, q, l⟩ <;> simp [olen]
theorem usum_add {hp : Nat → Option Ob} {s : Nat} {o : Ob} (hs : s < 168) (hn : hp s = none) : usum (hset hp s o) 168 = usum hp 168 + olen o := by
  have := usum_set (hp := hp) (s := s) (o := o) hs
  have e : olo hp s = 0 := by unfold olo; rw [hn]
  omega
def phS (φ : Nat → Nat) (s a : Nat) : Nat → Nat := fun t => if t = s then a else φ t
theorem gw_phS {φ : Nat → Nat} {s a : Nat} {y : Gw} (h : gref y ≠ some s) : gw (phS φ s a) y = gw φ y := by
  rcases y with _ | v | e
  · rfl
  · rcases v with _ | v | v | ⟨v, v2⟩ | v | v | v
    · rfl
    · rfl
    · rfl
    · rfl
    · have hne : v ≠ s := fun e => h (by rw [e]; rfl)
      show wd 4 ((phS φ s a v : Nat) : Int) = wd 4 ((φ v : Nat) : Int)
      rw [phS, if_neg hne]
    · have hne : v ≠ s := fun e => h (by rw [e]; rfl)
      show wd 5 ((phS φ s a v : Nat) : Int) = wd 5 ((φ v : Nat) : Int)
      rw [phS, if_neg hne]
    · have hne : v ≠ s := fun e => h (by rw [e]; rfl)
      show wd 6 ((phS φ s a v : Nat) : Int) = wd 6 ((φ v : Nat) : Int)
      rw [phS, if_neg hne]
  · cases e with
    | zero => rfl
    | succ e =>
      have hne : e ≠ s := fun e1 => h (by rw [e1]; rfl)
      show wd 7 ((phS φ s a e : Nat) : Int) = wd 7 ((φ e : Nat) : Int)
      rw [phS, if_neg hne]
theorem gok_ref {hp : Nat → Option Ob} {y : Gw} {t : Nat} (h : gok hp y) (hr : gref y = some t) : ∃ o, hp t = some o := by
  rcases y with _ | v | e
  · cases hr
  · rcases v with _ | v | v | ⟨v, v2⟩ | v | v | v
    · cases hr
    · cases hr
    · cases hr
    · cases hr
    · cases hr; obtain ⟨-, a, d, h⟩ := h; exact ⟨_, h⟩
    · cases hr; obtain ⟨-, l, h⟩ := h; exact ⟨_, h⟩
    · cases hr; obtain ⟨-, r, e, h⟩ := h; exact ⟨_, h⟩
  · cases e with
    | zero => cases hr
    | succ e => cases hr; obtain ⟨-, p, q, l, h⟩ := h; exact ⟨_, h⟩
theorem cw_phS {K : Nat → Nat → Prop} {C : Nat → Prop} {hp : Nat → Option Ob} {φ : Nat → Nat} {s a : Nat} {v : Va} (hv : VV K C hp v) (hn : hp s = none) : cw (phS φ s a) v = cw φ v := by
  refine gw_phS (y := gv v) (fun c => ?_)
  obtain ⟨o, ho⟩ := gok_ref (VV_gok hv) c
  rw [hn] at ho; cases ho
section MKP
variable {x : Cx} {sv : Nat → Option Va} {rc : Nat → Va × Va} {hp : Nat → Option Ob} {out : List Nat} {inp : List Int}
theorem EnvR_add {s : Nat} {o : Ob} (hn : hp s = none) {e : Nat} {sc : List (List Nat)} (h : EnvR x.r0 x.C hp e sc) : EnvR x.r0 x.C (hset hp s o) e sc := EnvR_tr (fun i hi => ⟨hi, rfl⟩) (frm_add hn) sc e h
theorem Cn_add {s : Nat} {o : Ob} (hn : hp s = none) {Kf : List Fr} {p d : Nat} {sc : List (List Nat)} (h : Cn x hp Kf p d sc) : Cn x (hset hp s o) Kf p d sc :=
  Cn_tr Kf p d sc (fun _ _ hv => VV_add hn hv) (fun _ _ _ he => EnvR_add hn he) h
theorem PW_add {s : Nat} {o : Ob} (hW : PW x sv rc hp out inp) (hs : s < 168) (hn : hp s = none) (hz : usum hp 168 + olen o ≤ x.z) (hO : ObR x.r0 x.nam x.K x.C x.c x.tp x.ent (hset hp s o) o) : PW x sv rc (hset hp s o) out inp := by
  obtain ⟨h1, h2, h3, h4, h5, h6, h7, h8, h9⟩ := hW
  refine ⟨fun t v a b => VV_add hn (h1 t v a b), fun i y a b => ⟨VV_add hn (h2 i y a b).1, VV_add hn (h2 i y a b).2⟩, h3, h4, h5, fun t o2 h => ?_, by rw [usum_add hs hn]; exact hz, h8, h9⟩
  by_cases e : t = s
  · subst e
    rw [hset_at] at h; cases h
    exact ⟨hs, hO⟩
  · rw [hset_ne _ _ e] at h
    obtain ⟨a, b⟩ := h6 t o2 h
    exact ⟨a, ObR_tr (Nat.le_refl _) (fun _ _ => rfl) (fun i hi => ⟨hi, rfl⟩) (fun _ _ => rfl) (fun _ h => h) (fun v hv => VV_add hn hv) (frm_add hn) o2 b⟩
theorem PW_free (hX : XOK x) (hW : PW x sv rc hp out inp) : ∃ s, s < 168 ∧ hp s = none ∧ ∀ t, t < s → hp t ≠ none := free_ex (fun _ o _ => olen_1 o) (by have := hW.2.2.2.2.2.2.1; have := hX.2.1; omega)
end MKP
section MKC
variable {x : Cx} {G0 G : SG} {N : Nat} {φ : Nat → Nat} {b lo hi : Nat} {sv : Nat → Option Va} {rc : Nat → Va × Va} {hp : Nat → Option Ob} {out : List Nat} {inp : List Int} {cn : Nat → Int32} {LV LC LK : List Gw} {p n i : Nat} {post : Int32 → SG → Prop}
/-- the class has made something -/
theorem CGnew {s : Nat} {o : Ob} {h1 : St} (hX : XC x G0 N) (hW : PW x sv rc hp out inp) (h : CG x G0 φ b lo hi sv rc hp out inp cn LV LC LK p G) (hs : s < 168) (hn : hp s = none) (hL : ∀ y, y ∈ LV ∨ y ∈ LC ∨ y ∈ LK → gref y ≠ some s) (h8 : h1 0 8 = nI (usum hp 168 + olen o)) (h0 : ∀ j, j ≠ 8 → h1 0 j = G 2 0 j) (hm : ∀ a, a < b + usum hp 168 → h1 1 a = G 2 1 a) (hm2 : ∀ i, i < olen o → h1 1 (b + usum hp 168 + i) = (ows (phS φ s (b + usum hp 168)) x.ent o).getD i 0) : CG x G0 (phS φ s (b + usum hp 168)) b lo hi sv rc (hset hp s o) out inp cn LV LC LK p (uo G 2 h1) := by
  obtain ⟨⟨a1, a2, a3, a4, a5, a6, a7, a8, a9, a10, a11, a12, a13, a14, a15, a16⟩, b1, b2, b3, b4, b5, b6⟩ := h
  have hus := usum_add (o := o) hs hn
  have hb : 2048 ≤ b := by rcases a6 with e | e <;> omega
  have mp : ∀ L : List Gw, (∀ y ∈ L, gref y ≠ some s) → L.map (gw (phS φ s (b + usum hp 168))) = L.map (gw φ) := fun L hL => List.map_congr_left (fun y hy => gw_phS (hL y hy))
  refine ⟨⟨?_, ?_, ?_, ?_, (h0 5 (by decide)).trans a5, a6, (h0 0 (by decide)).trans a7, a8, a9, (h0 10 (by decide)).trans a10, (h0 9 (by decide)).trans a11, a12, a13, fun o ho => by rw [uoN (by omega)]; exact a14 o ho, a15, a16⟩, ?_, ?_, ?_, b4, b5, b6⟩
  · obtain ⟨s1, s2, s3⟩ := a1
    refine ⟨s1, fun t ht => ?_, s3⟩
    obtain ⟨t1, t2, t3, t4, t5⟩ := s2 t ht
    exact ⟨t1, t2, t3, fun v hv => (t4 v hv).trans (cw_phS (hW.1 t v ht hv) hn).symm, t5⟩
  · have hR := RdC_mem (h1 := h1) a2 hX.2.2.2 (fun a ha => hm a (by omega)) (fun j j1 j2 => h0 j (by omega))
    obtain ⟨q1, q2, q3, q4, q5, q6, q7, q8, q9, q10, q11, q12, q13, q14⟩ := hR
    refine ⟨q1, q2, q3, q4, q5, q6, q7, q8, q9, q10, q11, q12, fun i y hy => ?_, q14⟩
    obtain ⟨w1, w2⟩ := q13 i y hy
    have hK : x.K i y := by
      rcases hy with hy | hy
      · exact hy
      · omega
    have same : ∀ v : Va, (made v → VV x.K x.C hp v) → cw φ v = cw (phS φ s (b + usum hp 168)) v := fun v hv => by
      by_cases e : made v
      · exact (cw_phS (hv e) hn).symm
      · exact cw_nm e
    have hval : (made (rc i).1 → VV x.K x.C hp (rc i).1) ∧ (made (rc i).2 → VV x.K x.C hp (rc i).2) := by
      by_cases hc : x.C i
      · have hx4 := (hX.1.2.2.2.1 i hc).2.2
        rw [hW.2.2.1 i hc]
        exact ⟨fun m => absurd m hx4.1, fun m => absurd m hx4.2⟩
      · exact ⟨fun _ => (hW.2.1 i y hK hc).1, fun _ => (hW.2.1 i y hK hc).2⟩
    exact ⟨w1.trans (same _ hval.1), w2.trans (same _ hval.2)⟩
  · obtain ⟨c1, c2⟩ := a3
    rw [hus]
    have old : ∀ t o2, hp t = some o2 → t ≠ s ∧ phS φ s (b + usum hp 168) t = φ t := fun t o2 e => by
      have : t ≠ s := fun e2 => by rw [e2, hn] at e; cases e
      exact ⟨this, if_neg this⟩
    refine ⟨fun t o2 e => ?_, fun t o2 t1 o3 e e1 hne => ?_⟩
    · by_cases e2 : t = s
      · subst e2
        rw [hset_at] at e; cases e
        have ep : phS φ t (b + usum hp 168) t = b + usum hp 168 := if_pos rfl
        rw [ep]
        exact ⟨hs, by omega, by omega, hm2⟩
      · rw [hset_ne _ _ e2] at e
        obtain ⟨d1, d2, d3, d4⟩ := c1 t o2 e
        rw [(old t o2 e).2]
        refine ⟨d1, d2, by omega, fun i hi => ?_⟩
        have hg := ObR_gok (hW.2.2.2.2.2.1 t o2 e).2 (by have := hX.1.2.2.2.2.2.2; omega)
        rw [show (uo G 2 h1) 2 1 = h1 1 from rfl, hm _ (by omega), d4 i hi, ows_at φ hi, ows_at _ hi]
        refine (gw_phS (fun c => ?_)).symm
        have hmem : (ogs x.ent o2).getD i none ∈ ogs x.ent o2 := by
          have hl : i < (ogs x.ent o2).length := by rw [ogs_len]; exact hi
          rw [List.getD_eq_getElem?_getD, List.getElem?_eq_getElem hl]
          exact List.getElem_mem hl
        obtain ⟨o4, h4⟩ := gok_ref (hg _ hmem) c
        rw [hn] at h4; cases h4
    · by_cases e2 : t = s
      · subst e2
        rw [hset_at] at e; cases e
        rw [hset_ne _ _ (fun c => hne c.symm)] at e1
        obtain ⟨d1, d2, d3, d4⟩ := c1 t1 o3 e1
        rw [(old t1 o3 e1).2, show phS φ t (b + usum hp 168) t = b + usum hp 168 from if_pos rfl]
        omega
      · rw [hset_ne _ _ e2] at e
        by_cases e3 : t1 = s
        · subst e3
          rw [hset_at] at e1; cases e1
          obtain ⟨d1, d2, d3, d4⟩ := c1 t o2 e
          rw [(old t o2 e).2, show phS φ t1 (b + usum hp 168) t1 = b + usum hp 168 from if_pos rfl]
          omega
        · rw [hset_ne _ _ e3] at e1
          rw [(old t o2 e).2, (old t1 o3 e1).2]
          exact c2 t o2 t1 o3 e e1 hne
  · show h1 0 8 = _
    rw [h8, hus]
  · rw [mp LV (fun y hy => hL y (Or.inl hy))]; exact b1
  · rw [mp LC (fun y hy => hL y (Or.inr (Or.inl hy)))]; exact b2
  · rw [mp LK (fun y hy => hL y (Or.inr (Or.inr hy)))]; exact b3
end MKC
section MKM
variable {x : Cx} {cv cf : Int32} {sv : Nat → Option Va} {rc : Nat → Va × Va} {hp : Nat → Option Ob} {out : List Nat} {inp : List Int} {cn : Nat → Int32} {g : St} {k : StL}
theorem r_make2 {post : Int32 → St → StL → Prop} {w len s : Nat} (hM : HpM g hp) (hu : g 0 4 = nI (usum hp 168)) (hs : s < 168) (hn : hp s = none) (hf : ∀ t, t < s → hp t ≠ none) (kk : post (nI s) (us (up (up g 8 s (nI w)) 9 s (nI len)) 4 (nI (usum hp 168 + len))) k) : ∀ (m n t : Nat), t + m = s → m < n → V_X12_make_2 post n (nI w) (nI len) (nI t) g k
  | 0, n, t, ht, hn2 => by
    obtain ⟨n, rfl⟩ : ∃ n', n = n' + 1 := ⟨n - 1, by omega⟩
    have e : t = s := by omega
    subst e
    have e8 : g 8 t = 0 := (hM t hs).1 hn
    unfold V_X12_make_2
    rw [nI_clamp (by omega), e8]
    refine ⟨vp_in_nI hs (by decide), fun _ => ⟨vp_in_nI hs (by decide), eqI ⟨vp_in_nI hs (by decide), eqI (eqI ?_)⟩⟩, fun c => absurd rfl c⟩
    have e4 : (up (up g 8 t (nI w)) 9 t (nI len)) 0 4 = nI (usum hp 168) := hu
    rw [e4, nI_add]
    exact kk
  | m + 1, n, t, ht, hn2 => by
    obtain ⟨n, rfl⟩ : ∃ n', n = n' + 1 := ⟨n - 1, by omega⟩
    have hne := hf t (by omega)
    have e8 : ¬ g 8 t = 0 := by
      cases e : hp t with
      | none => exact absurd e hne
      | some o =>
        rw [((hM t (by omega)).2 o e).1]
        rcases o with ⟨a, d⟩ | l | ⟨r, e⟩ | ⟨p, q, l⟩
        · show ¬ nI 1 = 0; decide
        · show ¬ nI 2 = 0; decide
        · show ¬ nI 3 = 0; decide
        · show ¬ nI 4 = 0; decide
    unfold V_X12_make_2
    rw [nI_clamp (by omega)]
    refine ⟨vp_in_nI (by omega) (by decide), fun c => absurd c e8, fun _ => ?_⟩
    rw [nI_1]
    exact eqI (r_make2 hM hu hs hn hf kk m n (t + 1) (by omega) (by omega))
theorem r_make {post : Int32 → St → StL → Prop} {w len s n : Nat} (hM : MW x cv cf sv rc hp out inp cn g k) (hs : s < 168) (hn : hp s = none) (hf : ∀ t, t < s → hp t ≠ none) (hn2 : 200 ≤ n) (kk : post (nI s) (us (up (up g 8 s (nI w)) 9 s (nI len)) 4 (nI (usum hp 168 + len))) k) : V_X12_make n (nI w) (nI len) g k post := by
  unfold V_X12_make
  exact eqI (r_make2 hM.2.2.2.2.1 hM.2.2.2.2.2.1 hs hn hf kk s n 0 (by omega) (by omega))
/-- the reference has made something -/
theorem MWnew {s : Nat} {o : Ob} {g1 : St} (hW : PW x sv rc hp out inp) (h : MW x cv cf sv rc hp out inp cn g k) (hs : s < 168) (hn : hp s = none) (h8 : g1 8 = upd (g 8) s (nI (osort o))) (h9 : g1 9 = upd (g 9) s (nI (olen o))) (h10 : ∀ i, i < (ofs o).length → g1 10 (8 * s + i) = (ofs o).getD i 0) (h10' : ∀ a, (a < 8 * s ∨ 8 * s + 8 ≤ a) → g1 10 a = g 10 a) (h4 : g1 0 4 = nI (usum hp 168 + olen o)) (h0 : ∀ j, j ≠ 4 → g1 0 j = g 0 j) (hr : ∀ c, c ≠ 0 → c ≠ 8 → c ≠ 9 → c ≠ 10 → g1 c = g c) : MW x cv cf sv rc (hset hp s o) out inp cn g1 k := by
  obtain ⟨a1, a2, a3, a4, a5, a6, a7, a8, a9, a10, a11, a12, a13, a14, a15, a16, a17⟩ := h
  have hr' : ∀ c, c = 1 ∨ c = 2 ∨ c = 3 ∨ c = 4 ∨ c = 5 ∨ c = 6 ∨ c = 7 ∨ c = 23 ∨ c = 24 → g1 c = g c := fun c hc => hr c (by omega) (by omega) (by omega) (by omega)
  refine ⟨(h0 1 (by decide)).trans a1, fun i hi => ?_, ?_, ?_, fun t ht => ?_, by rw [usum_add hs hn]; exact h4, (h0 7 (by decide)).trans a7, (h0 8 (by decide)).trans a8, ⟨(h0 24 (by decide)).trans a9.1, fun i hi => ?_⟩, ⟨(h0 25 (by decide)).trans a10.1, fun i hi => ?_⟩, (h0 5 (by decide)).trans a11, (h0 6 (by decide)).trans a12, (h0 19 (by decide)).trans a13, (h0 21 (by decide)).trans a14, (h0 22 (by decide)).trans a15, (h0 23 (by decide)).trans a16, (h0 0 (by decide)).trans a17⟩
  · rw [hr' 4 (by omega), hr' 5 (by omega)]; exact a2 i hi
  · rw [h0 2 (by decide), hr' 1 (by omega), hr' 2 (by omega), hr' 3 (by omega)]; exact a3
  · refine ⟨(h0 3 (by decide)).trans a4.1, fun i hi => ?_⟩
    rw [hr' 6 (by omega), hr' 7 (by omega)]; exact a4.2 i hi
  · rw [h8, h9]
    by_cases e : t = s
    · subst e
      refine ⟨fun c => (by rw [hset_at] at c; cases c), fun o2 e2 => ?_⟩
      rw [hset_at] at e2; cases e2
      rw [updE, updE]
      exact ⟨rfl, rfl, h10⟩
    · rw [updN _ _ e, updN _ _ e, hset_ne _ _ e]
      obtain ⟨b1, b2⟩ := a5 t ht
      refine ⟨b1, fun o2 e2 => ?_⟩
      obtain ⟨c1, c2, c3⟩ := b2 o2 e2
      have k1 := ObR_len (hW.2.2.2.2.2.1 t o2 e2).2
      have k2 := ofs_len o2
      exact ⟨c1, c2, fun i hi => (h10' _ (by omega)).trans (c3 i hi)⟩
  · rw [hr' 23 (by omega)]; exact a9.2 i hi
  · rw [hr' 24 (by omega)]; exact a10.2 i hi
/-- frames stay where something is made -/
theorem MK_new {Kf : List Fr} {g1 : St} (h : MK Kf g) (h0 : ∀ j, j ≠ 4 → g1 0 j = g 0 j) (hr : ∀ c, c ≠ 0 → c ≠ 8 → c ≠ 9 → c ≠ 10 → g1 c = g c) : MK Kf g1 := by
  obtain ⟨b1, b2, b3, b4, b5, b6⟩ := h
  exact ⟨(h0 12 (by decide)).trans b1, (h0 13 (by decide)).trans b2, (h0 20 (by decide)).trans b3, FrM_fr Kf (fun c c1 c2 t ht => by rw [hr c (by omega) (by omega) (by omega) (by omega)]) b4, VlM_fr (fun t ht => by rw [hr 21 (by decide) (by decide) (by decide) (by decide)]) b5, (h0 18 (by decide)).trans b6⟩
end MKM
