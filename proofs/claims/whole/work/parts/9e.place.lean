-- ===== where a symbol stands =====
theorem nI_div {a b : Nat} (ha : a < 2 ^ 31) (hb : b < 2 ^ 31) : nI a / nI b = nI (a / b) := by
  have hne : nI a ≠ Int32.minValue := fun c => by
    have := congrArg Int32.toInt c
    rw [nI_toInt ha] at this
    have h2 : Int32.minValue.toInt = -2147483648 := by decide +kernel
    rw [h2] at this
    omega
  rw [← Int32.toInt_inj, Int32.toInt_div_of_ne_left _ _ hne, nI_toInt ha, nI_toInt hb, nI_toInt (Nat.lt_of_le_of_lt (Nat.div_le_self a b) ha)]
  exact (Int.ofNat_tdiv a b)
theorem nI_mul (a b : Nat) : nI a * nI b = nI (a * b) := by
  rw [← iI_nat, ← iI_nat, ← iI_nat, iI_mul]
  congr 1
theorem nI_mod4 {a : Nat} (ha : a < 2 ^ 31) : nI a - nI a / 4 * 4 = nI (a % 4) := by
  rw [show (4 : Int32) = nI 4 from rfl, nI_div ha (by decide), nI_mul, nI_sub (by omega)]
  congr 1
  omega
def hset (hp : Nat → Option Ob) (s : Nat) (o : Ob) : Nat → Option Ob := fun t => if t = s then some o else hp t
theorem hset_at (hp : Nat → Option Ob) (s : Nat) (o : Ob) : hset hp s o s = some o := if_pos rfl
theorem hset_ne (hp : Nat → Option Ob) {s t : Nat} (o : Ob) (h : t ≠ s) : hset hp s o t = hp t := if_neg h
theorem usum_set {hp : Nat → Option Ob} {s : Nat} {o : Ob} (hs : s < 168) : usum (hset hp s o) 168 + olo hp s = usum hp 168 + olen o := by
  have h1 := usum_upd (hp := hp) 168 s hs
  have h2 := usum_upd (hp := hset hp s o) 168 s hs
  have e : (fun x => if x = s then none else hset hp s o x) = (fun x => if x = s then none else hp x) := by
    funext t
    by_cases e : t = s
    · rw [if_pos e, if_pos e]
    · rw [if_neg e, if_neg e, hset_ne _ _ e]
  rw [e] at h2
  have e2 : olo (hset hp s o) s = olen o := by unfold olo; rw [hset_at]
  omega
/-- an object of the same kind: cells, vectors of any length, frames of the same symbols -/
def skd : Ob → Ob → Prop
  | .inl _, .inl _ => True
  | .inr (.inl _), .inr (.inl _) => True
  | .inr (.inr (.inr (p, q, l))), .inr (.inr (.inr (p1, q1, l1))) => p1 = p ∧ q1 = q ∧ l1.length = l.length
  | _, _ => False
theorem VV_set {K : Nat → Nat → Prop} {C : Nat → Prop} {hp : Nat → Option Ob} {s : Nat} {o o1 : Ob} {v : Va} (ho : hp s = some o) (hk : skd o o1) (h : VV K C hp v) : VV K C (hset hp s o1) v := by
  rcases v with _ | v | v | ⟨v, v2⟩ | v | v | v
  · trivial
  · exact h
  · exact h
  · exact h
  · obtain ⟨h1, a, d, h2⟩ := h
    refine ⟨h1, ?_⟩
    by_cases e : v = s
    · subst e
      rw [ho] at h2; cases h2
      rcases o1 with ⟨a1, d1⟩ | l1 | ⟨r1, e1⟩ | ⟨p1, q1, l1⟩
      · exact ⟨a1, d1, hset_at _ _ _⟩
      · exact hk.elim
      · exact hk.elim
      · exact hk.elim
    · exact ⟨a, d, by rw [hset_ne _ _ e]; exact h2⟩
  · obtain ⟨h1, l, h2⟩ := h
    refine ⟨h1, ?_⟩
    by_cases e : v = s
    · subst e
      rw [ho] at h2; cases h2
      rcases o1 with ⟨a1, d1⟩ | l1 | ⟨r1, e1⟩ | ⟨p1, q1, l1⟩
      · exact hk.elim
      · exact ⟨l1, hset_at _ _ _⟩
      · exact hk.elim
      · exact hk.elim
    · exact ⟨l, by rw [hset_ne _ _ e]; exact h2⟩
  · obtain ⟨h1, r, e0, h2⟩ := h
    refine ⟨h1, ?_⟩
    by_cases e : v = s
    · subst e
      rw [ho] at h2; cases h2
      rcases o1 with ⟨a1, d1⟩ | l1 | ⟨r1, e1⟩ | ⟨p1, q1, l1⟩
      · exact hk.elim
      · exact hk.elim
      · exact hk.elim
      · exact hk.elim
    · exact ⟨r, e0, by rw [hset_ne _ _ e]; exact h2⟩
theorem frm_set {hp : Nat → Option Ob} {s : Nat} {o o1 : Ob} (ho : hp s = some o) (hk : skd o o1) : ∀ t p q l, hp t = some (ofrm p q l) → ∃ l1, hset hp s o1 t = some (ofrm p q l1) ∧ l1.length = l.length := by
  intro t p q l h
  by_cases e : t = s
  · subst e
    rw [ho] at h; cases h
    rcases o1 with ⟨a1, d1⟩ | l1 | ⟨r1, e1⟩ | ⟨p1, q1, l1⟩
    · exact hk.elim
    · exact hk.elim
    · exact hk.elim
    · obtain ⟨k1, k2, k3⟩ := hk
      subst k1; subst k2
      exact ⟨l1, hset_at _ _ _, k3⟩
  · exact ⟨l, by rw [hset_ne _ _ e]; exact h, rfl⟩
section HS
variable {x : Cx} {sv : Nat → Option Va} {rc : Nat → Va × Va} {hp : Nat → Option Ob} {out : List Nat} {inp : List Int}
theorem EnvR_set {s : Nat} {o o1 : Ob} (ho : hp s = some o) (hk : skd o o1) {e : Nat} {sc : List (List Nat)} (h : EnvR x.r0 x.C hp e sc) : EnvR x.r0 x.C (hset hp s o1) e sc :=
  EnvR_tr (fun i hi => ⟨hi, rfl⟩) (frm_set ho hk) sc e h
theorem Cn_set {s : Nat} {o o1 : Ob} (ho : hp s = some o) (hk : skd o o1) {Kf : List Fr} {p d : Nat} {sc : List (List Nat)} (h : Cn x hp Kf p d sc) : Cn x (hset hp s o1) Kf p d sc :=
  Cn_tr Kf p d sc (fun _ _ hv => VV_set ho hk hv) (fun _ _ _ he => EnvR_set ho hk he) h
/-- what is in an object changes -/
theorem PW_set {s : Nat} {o o1 : Ob} (hW : PW x sv rc hp out inp) (ho : hp s = some o) (hk : skd o o1) (hl : olen o1 = olen o) (hO : ObR x.r0 x.nam x.K x.C x.c x.tp x.ent (hset hp s o1) o1) : PW x sv rc (hset hp s o1) out inp := by
  obtain ⟨h1, h2, h3, h4, h5, h6, h7, h8, h9⟩ := hW
  obtain ⟨hs, -⟩ := h6 s o ho
  refine ⟨fun t v a b => VV_set ho hk (h1 t v a b), fun i y a b => ⟨VV_set ho hk (h2 i y a b).1, VV_set ho hk (h2 i y a b).2⟩, h3, h4, h5, fun t o2 h => ?_, ?_, h8, h9⟩
  · by_cases e : t = s
    · subst e
      rw [hset_at] at h; cases h
      exact ⟨hs, hO⟩
    · rw [hset_ne _ _ e] at h
      obtain ⟨a, b⟩ := h6 t o2 h
      exact ⟨a, ObR_tr (Nat.le_refl _) (fun _ _ => rfl) (fun i hi => ⟨hi, rfl⟩) (fun _ _ => rfl) (fun _ h => h) (fun v hv => VV_set ho hk hv) (frm_set ho hk) o2 b⟩
  · have := usum_set (hp := hp) (s := s) (o := o1) hs
    have e : olo hp s = olen o := by unfold olo; rw [ho]
    omega
/-- the frame that is so many further out -/
def FrAt (hp : Nat → Option Ob) : Nat → Nat → Nat → Prop
  | 0, e, s => e = s + 1
  | k + 1, e, s => ∃ t p q l, e = t + 1 ∧ hp t = some (ofrm p q l) ∧ FrAt hp k p s
theorem loc_at : ∀ (sc : List (List Nat)) (e s pl : Nat), EnvR x.r0 x.C hp e sc → loc sc s = some pl → ∃ t p q l, FrAt hp (pl / 4) e t ∧ hp t = some (ofrm p q l) ∧ pl % 4 < l.length ∧ t < 168 ∧ pl < 4 * sc.length
  | [], e, s, pl, _, h => by cases h
  | ps :: sc, e, s, pl, h, hl => by
    obtain ⟨t, p, q, l, e1, h1, h2, h3, h4, h5⟩ := h
    have hl : (match ps.findIdx? (fun x => x == s) with | some i => some i | none => (loc sc s).map (fun q => q + 4)) = some pl := hl
    cases hf : ps.findIdx? (fun x => x == s) with
    | some i =>
      rw [hf] at hl
      have e9 : i = pl := by cases hl; rfl
      subst e9
      have hi := List.findIdx?_eq_some_iff_getElem.mp hf
      obtain ⟨hi, -⟩ := hi
      obtain ⟨lp, -, -, -, h4'⟩ := h3
      refine ⟨t, p, q, l, ?_, h2, ?_, h1, ?_⟩
      · rw [show i / 4 = 0 by omega]; exact e1
      · omega
      · show i < 4 * (sc.length + 1)
        omega
    | none =>
      rw [hf] at hl
      cases hl2 : loc sc s with
      | none => rw [hl2] at hl; cases hl
      | some pl2 =>
        rw [hl2] at hl
        cases hl
        obtain ⟨t2, p2, q2, l2, a1, a2, a3, a4, a5⟩ := loc_at sc p s pl2 h5 hl2
        refine ⟨t2, p2, q2, l2, ?_, a2, by show (pl2 + 4) % 4 < l2.length; omega, a4, by show pl2 + 4 < 4 * (sc.length + 1); omega⟩
        show FrAt hp ((pl2 + 4) / 4) e t2
        rw [show (pl2 + 4) / 4 = pl2 / 4 + 1 by omega]
        exact ⟨t, p, q, l, e1, h2, a1⟩
end HS
section PL
variable {x : Cx} {cv cf : Int32} {sv : Nat → Option Va} {rc : Nat → Va × Va} {hp : Nat → Option Ob} {out : List Nat} {inp : List Int} {cn : Nat → Int32} {g : St} {k : StL}
theorem enc_sym {a b : Nat} (ha : a < 40) (hb : b < 40) : enc (vsym a) = enc (vsym b) ↔ a = b := by
  show nI (1048576 * 3 + a) = nI (1048576 * 3 + b) ↔ a = b
  rw [nI_eq (by omega) (by omega)]; omega
theorem r_pl31 {K2 : Int32 → Int32 → St → StL → Prop} {post : Int32 → St → StL → Prop} {s t p : Nat} (hx : XOK x) (hC : ∀ i, x.C i → rc i = x.r0 i) (hM : MW x cv cf sv rc hp out inp cn g k) (hs : s < 40) (ht : t < 168) (h10 : g 10 (8 * t) = nI p) : ∀ (lp ps : List Nat) (n m : Nat), lp.length < n → m + lp.length ≤ 4 → Lst x.r0 (hdl lp) lp → (∀ i ∈ lp, x.C i) → lp.map (fun i => (x.r0 i).1) = ps.map vsym → (ps.findIdx? (fun y => y == s) = none → K2 (enc (vsym s)) (nI p) g k) → (∀ i, ps.findIdx? (fun y => y == s) = some i → post (nI (8 * t + 2 + m + i)) g k) → V_X12_place_31 K2 post n (enc (vsym s)) (nI (t + 1)) (nI (8 * t + 2 + m)) (enc (hdl lp)) g k
  | [], ps, n, m, hn, _, _, _, hp9, k0, _ => by
    obtain ⟨n, rfl⟩ : ∃ n', n = n' + 1 := ⟨n - 1, by omega⟩
    have e : ps = [] := by
      cases ps with
      | nil => rfl
      | cons a b => cases hp9
    subst e
    unfold V_X12_place_31
    refine ⟨fun _ => ?_, fun c => absurd rfl c⟩
    rw [show nI (t + 1) - 1 = nI t from nI_pred t, show (8 : Int32) = nI 8 from rfl, nI_mul, nI_clamp (by omega), h10]
    exact ⟨vp_in_nI (by omega) (by decide), eqI (k0 rfl)⟩
  | y :: lp, ps, n, m, hn, hm, hL, hlC, hp9, k0, k1 => by
    obtain ⟨n, rfl⟩ : ∃ n', n = n' + 1 := ⟨n - 1, by omega⟩
    have hn : lp.length + 1 < n + 1 := hn
    have hm : m + (lp.length + 1) ≤ 4 := hm
    have hyC := hlC y (by simp)
    have hyx := hx.2.2.2.1 y hyC
    have hrn := hx.2.2.2.2.2.1
    have hsy := hx.2.2.1.2.1
    cases ps with
    | nil => cases hp9
    | cons s2 ps =>
      have e1 : (x.r0 y).1 = vsym s2 := (List.cons.inj hp9).1
      have hs2 := hyx.2.1 s2 e1
      unfold V_X12_place_31
      refine ⟨fun c => absurd c (rd_nnil (by omega)), fun _ => r_car1 hM.2.2.2.1 (i := y) (c := 0) hyx.1 (by omega) (by decide) ?_⟩
      rw [hC y hyC, e1]
      refine ⟨fun c => eqI ?_, fun c => ?_⟩
      · have hne : s2 ≠ s := fun e => c (by rw [e])
        have hfi : (s2 :: ps).findIdx? (fun y => y == s) = (ps.findIdx? (fun y => y == s)).map (fun i => i + 1) := by
          rw [List.findIdx?_cons]
          have : (s2 == s) = false := by simpa using hne
          rw [this]; rfl
        rw [hfi] at k0 k1
        refine r_cdr1 hM.2.2.2.1 (i := y) (c := 0) hyx.1 (by omega) (by decide) ?_
        rw [hC y hyC, enc_hdl hL.2, nI_1]
        refine r_pl31 hx hC hM hs ht h10 lp ps n (m + 1) (by omega) (by omega) (Lst_hdl hL.2) (fun i hi => hlC i (by simp [hi])) (List.cons.inj hp9).2 (fun e => k0 (by rw [e]; rfl)) (fun i e => ?_)
        have := k1 (i + 1) (by rw [e]; rfl)
        rw [show 8 * t + 2 + (m + 1) + i = 8 * t + 2 + m + (i + 1) by omega]; exact this
      · have he : s2 = s := (enc_sym (by omega) hs).mp c
        subst he
        exact k1 0 (by rw [List.findIdx?_cons]; simp)
theorem r_pl2 {post : Int32 → St → StL → Prop} {s : Nat} (hx : XOK x) (hC : ∀ i, x.C i → rc i = x.r0 i) (hM : MW x cv cf sv rc hp out inp cn g k) (hs : s < 40) : ∀ (sc : List (List Nat)) (e n : Nat), sc.length + 10 < n → EnvR x.r0 x.C hp e sc → (loc sc s = none → post (-1) g k) → (∀ pl t, loc sc s = some pl → FrAt hp (pl / 4) e t → t < 168 → post (nI (8 * t + 2 + pl % 4)) g k) → V_X12_place_2 post n (enc (vsym s)) (nI e) g k
  | [], e, n, hn, hE, k0, _ => by
    obtain ⟨n, rfl⟩ : ∃ n', n = n' + 1 := ⟨n - 1, by omega⟩
    have e0 : e = 0 := hE
    subst e0
    unfold V_X12_place_2
    exact ⟨fun _ => k0 rfl, fun c => absurd (Int32.le_refl 0) c⟩
  | ps :: sc, e, n, hn, hE, k0, k1 => by
    obtain ⟨n, rfl⟩ : ∃ n', n = n' + 1 := ⟨n - 1, by omega⟩
    have hn : sc.length + 1 + 10 < n + 1 := hn
    obtain ⟨t, p, q, l, rfl, ht, ho, ⟨lp, hL, hlC, hmap, h4⟩, hll, hE2⟩ := hE
    have hlp : lp.length = ps.length := by have := congrArg List.length hmap; simpa using this
    obtain ⟨-, -, hf⟩ := (hM.2.2.2.2.1 t ht).2 _ ho
    have f0 : g 10 (8 * t) = nI p := hf 0 (by show 0 < (nI p :: enc q :: l.map enc).length; simp)
    have f1 : g 10 (8 * t + 1) = enc q := hf 1 (by show 1 < (nI p :: enc q :: l.map enc).length; simp)
    unfold V_X12_place_2
    refine ⟨fun c => absurd c (nI_nle (n := t + 1) (by omega) (by omega)), fun _ => ?_⟩
    rw [show nI (t + 1) - 1 = nI t from nI_pred t, show (8 : Int32) = nI 8 from rfl, nI_mul, show (2 : Int32) = nI 2 from rfl, nI_add, show (1 : Int32) = nI 1 from rfl, nI_add, nI_clamp (by omega), f1, enc_hdl hL]
    refine eqI ⟨vp_in_nI (by omega) (by decide), eqI ?_⟩
    have hloc : loc (ps :: sc) s = match ps.findIdx? (fun x => x == s) with | some i => some i | none => (loc sc s).map (fun q => q + 4) := rfl
    refine r_pl31 (m := 0) hx hC hM hs ht f0 lp ps n (by omega) (by omega) (Lst_hdl hL) hlC hmap (fun ef => ?_) (fun i ef => ?_)
    · rw [ef] at hloc
      refine r_pl2 hx hC hM hs sc p n (by omega) hE2 (fun e2 => k0 (by rw [hloc, e2]; rfl)) (fun pl t2 e2 hF ht2 => ?_)
      have := k1 (pl + 4) t2 (by rw [hloc, e2]; rfl) (by rw [show (pl + 4) / 4 = pl / 4 + 1 by omega]; exact ⟨t, p, q, l, rfl, ho, hF⟩) ht2
      rw [show (pl + 4) % 4 = pl % 4 by omega] at this
      exact this
    · rw [ef] at hloc
      have hi : i < ps.length := (List.findIdx?_eq_some_iff_getElem.mp ef).1
      have := k1 i t hloc (by rw [show i / 4 = 0 by omega]; rfl) ht
      rw [show i % 4 = i by omega] at this
      exact this
end PL
