-- ===== printing: the class =====
section PC
variable {x : Cx} {G0 G : SG} {N : Nat} {φ : Nat → Nat} {b lo hi : Nat} {sv : Nat → Option Va} {rc : Nat → Va × Va} {hp : Nat → Option Ob} {out : List Nat} {inp : List Int} {cn : Nat → Int32} {LV LC LK : List Gw} {p n i : Nat} {post : Int32 → SG → Prop}
theorem c_addc {c : Nat} {R : SG → Prop} (h : CG x G0 φ b lo hi sv rc hp out inp cn LV LC LK p G) (k : ∀ G1, CG x G0 φ b lo hi sv rc hp (add1 out c) inp cn LV LC LK p G1 → G1 4 = G 4 → R G1) : V_X5_add 200 (nI c) (G 6) (fun u => ∀ g : SG, g = uo G 6 u → R g) := by
  have hq : QuR 200 (G 6) (out.map nI) := h.1.2.2.2.2.2.2.2.1
  refine v_addQ (by decide) hq (fun hl g1 hg1 => eqI (k _ (CG6 h ?_) rfl)) (fun hl => eqI ?_)
  · rw [List.length_map] at hl
    rw [add1, if_pos hl, List.map_append]; exact hg1
  · rw [List.length_map] at hl
    rw [show uo G 6 (G 6) = G from uo_id rfl]
    have := k G
    rw [add1_full (by omega)] at this
    exact this h rfl
theorem c_fullc {R : Int32 → SG → Prop} (h : CG x G0 φ b lo hi sv rc hp out inp cn LV LC LK p G) (k0 : out.length < 200 → R 0 G) (k1 : 200 ≤ out.length → R 1 G) : V_X5_isFull 200 (G 6) (fun r u => ∀ g : SG, g = uo G 6 u → R r g) := by
  have hq : QuR 200 (G 6) (out.map nI) := h.1.2.2.2.2.2.2.2.1
  refine v_full (by decide) hq (fun hl => eqI ?_) (fun hl => eqI ?_)
  · rw [show uo G 6 (G 6) = G from uo_id rfl]
    rw [List.length_map] at hl; exact k0 hl
  · rw [show uo G 6 (G 6) = G from uo_id rfl]
    rw [List.length_map] at hl; exact k1 (by omega)
theorem c_chT {i t : Nat} {P : Int32 → Prop} {l : List Nat} (hi : i = 35 ∧ l = [110, 105, 108] ∨ i = 36 ∧ l = [32, 46, 32]) (ht : t < 3) (k : P (nI (l.getD t 0))) : V_J0_charAt_5068e i (nI t) P := by
  have hcs : t = 0 ∨ t = 1 ∨ t = 2 := by omega
  unfold V_J0_charAt_5068e V_J0_isLatin1_aae02 V_J1_charAt_3b067
  rcases hi with ⟨rfl, rfl⟩ | ⟨rfl, rfl⟩ <;> rcases hcs with rfl | rfl | rfl <;> exact ⟨by decide, ⟨fun c => absurd c (by decide), fun _ => ⟨by decide, fun c => absurd rfl c, fun _ => ⟨fun c => absurd c (by decide), fun _ => ⟨by decide, by decide, ⟨by decide, by decide⟩, by decide, vp_in_nI (by decide) (by decide), by rfl, by rfl, k⟩⟩⟩⟩⟩
theorem c_text {i : Nat} {l : List Nat} {R : SG → Prop} (hz : i = 35 ∧ l = [110, 105, 108] ∨ i = 36 ∧ l = [32, 46, 32]) : ∀ (m t n : Nat) (out : List Nat) (G : SG), t + m = 3 → m < n → CG x G0 φ b lo hi sv rc hp out inp cn LV LC LK p G → (∀ G1, CG x G0 φ b lo hi sv rc hp (ads out (l.drop t)) inp cn LV LC LK p G1 → G1 4 = G 4 → R G1) → V_X4_writeText_2 N R n i (nI t) G := by
  intro m
  have hi37 : i < 37 := by rcases hz with ⟨rfl, -⟩ | ⟨rfl, -⟩ <;> decide
  have hll : l.length = 3 := by rcases hz with ⟨-, rfl⟩ | ⟨-, rfl⟩ <;> rfl
  have hlen : ∀ P : Int32 → Prop, P 3 → V_J0_length_8abf5 i P := fun P k => by
    unfold V_J0_length_8abf5 V_J0_coder_7d493
    refine ⟨hi37, hi37, hi37, fun c => absurd c (by decide), fun _ => ⟨hi37, ?_⟩⟩
    rcases hz with ⟨rfl, -⟩ | ⟨rfl, -⟩ <;> exact k
  induction m with
  | zero =>
    intro t n out G ht hn h k
    obtain ⟨n, rfl⟩ : ∃ n', n = n' + 1 := ⟨n - 1, by omega⟩
    have e : t = 3 := by omega
    subst e
    unfold V_X4_writeText_2
    refine ⟨hi37, hlen _ ⟨fun _ => k G ?_ rfl, fun c => absurd (show (3 : Int32) ≤ nI 3 by decide) c⟩⟩
    rw [List.drop_of_length_le (by omega)]; exact h
  | succ m ih =>
    intro t n out G ht hn h k
    obtain ⟨n, rfl⟩ : ∃ n', n = n' + 1 := ⟨n - 1, by omega⟩
    unfold V_X4_writeText_2
    refine ⟨hi37, hlen _ ⟨fun c => absurd ((nI_leI (a := 3) (by decide) (by omega)).mp c) (by omega), fun _ => ⟨hi37, c_chT hz (by omega) (c_addc h (fun G1 h1 e1 => eqI ?_))⟩⟩⟩
    rw [nI_1]
    refine ih (t + 1) n _ G1 (by omega) (by omega) h1 (fun G2 h2 e2 => k G2 ?_ (e2.trans e1))
    have ed : l.drop t = l.getD t 0 :: l.drop (t + 1) := by
      rw [List.getD_eq_getElem?_getD, List.getElem?_eq_getElem (by omega)]
      exact List.drop_eq_getElem_cons (by omega)
    rw [ed]; exact h2
theorem c_dg {a : Nat} {R : SG → Prop} (ha : a ≤ 32768) : ∀ (j n : Nat) (out : List Nat) (G : SG), j ≤ 5 → j < n → CG x G0 φ b lo hi sv rc hp out inp cn LV LC LK p G → (∀ G1, CG x G0 φ b lo hi sv rc hp (ads out (dg a j)) inp cn LV LC LK p G1 → G1 4 = G 4 → R G1) → V_X4_writeNumber_40 N R n (nI a) (nI (if j = 0 then 0 else 10 ^ (j - 1))) G := by
  intro j
  induction j with
  | zero =>
    intro n out G hj hn h k
    obtain ⟨n, rfl⟩ : ∃ n', n = n' + 1 := ⟨n - 1, by omega⟩
    unfold V_X4_writeNumber_40
    exact ⟨fun _ => k G h rfl, fun c => absurd (show nI (if 0 = 0 then 0 else _) ≤ (0 : Int32) from Int32.le_refl _) c⟩
  | succ j ih =>
    intro n out G hj hn h k
    obtain ⟨n, rfl⟩ : ∃ n', n = n' + 1 := ⟨n - 1, by omega⟩
    have hp10 : 10 ^ j ≤ 10000 := by
      have : 10 ^ j ≤ 10 ^ 4 := Nat.pow_le_pow_right (by decide) (by omega)
      omega
    have hp0 : 0 < 10 ^ j := Nat.pos_of_ne_zero (by simp)
    rw [if_neg (by omega), show j + 1 - 1 = j by omega]
    have hd := Nat.div_le_self a (10 ^ j)
    have en : nI (10 ^ j) / 10 = nI (if j = 0 then 0 else 10 ^ (j - 1)) := by
      rw [show (10 : Int32) = nI 10 from rfl, nI_div (by omega) (by decide)]
      congr 1
      by_cases e : j = 0
      · subst e; rfl
      · rw [if_neg e]
        obtain ⟨i, rfl⟩ : ∃ i, j = i + 1 := ⟨j - 1, by omega⟩
        rw [Nat.pow_succ, Nat.mul_div_cancel _ (by decide)]; rfl
    have ec : (48 : Int32) + (nI a / nI (10 ^ j) - nI a / nI (10 ^ j) / 10 * 10) = nI (48 + a / 10 ^ j % 10) := by
      rw [nI_div (by omega) (by omega), show (10 : Int32) = nI 10 from rfl, nI_div (by omega) (by decide), nI_mul, nI_sub (by omega), show (48 : Int32) = nI 48 from rfl, nI_add]
      congr 1
      omega
    unfold V_X4_writeNumber_40
    rw [ec, en]
    refine ⟨fun c => absurd ((nI_leI (b := 0) (by omega) (by decide)).mp c) (by omega), fun _ => ⟨fun c => absurd ((nI_eq (b := 0) (by omega) (by decide)).mp c) (by omega), c_addc h (fun G1 h1 e1 => eqI (ih n _ G1 (by omega) (by omega) h1 (fun G2 h2 e2 => k G2 h2 (e2.trans e1))))⟩⟩
theorem c_f25 {a : Nat} {R : SG → Prop} (ha : a ≤ 32768) (h : CG x G0 φ b lo hi sv rc hp out inp cn LV LC LK p G) : ∀ (j n : Nat), j ≤ 4 → 20 + j < n → (∀ G1, CG x G0 φ b lo hi sv rc hp (ads out (f25 a j)) inp cn LV LC LK p G1 → G1 4 = G 4 → R G1) → V_X4_writeNumber_22 N R n (nI a) (nI (10 ^ j)) G := by
  intro j
  induction j with
  | zero =>
    intro n hj hn k
    obtain ⟨n, rfl⟩ : ∃ n', n = n' + 1 := ⟨n - 1, by omega⟩
    unfold V_X4_writeNumber_22
    exact ⟨fun _ => c_dg ha 1 n out G (by decide) (by omega) h k, fun c => absurd (show nI (10 ^ 0) ≤ (1 : Int32) from Int32.le_refl _) c⟩
  | succ j ih =>
    intro n hj hn k
    obtain ⟨n, rfl⟩ : ∃ n', n = n' + 1 := ⟨n - 1, by omega⟩
    have hp10 : 10 ^ (j + 1) ≤ 10000 := by
      have : 10 ^ (j + 1) ≤ 10 ^ 4 := Nat.pow_le_pow_right (by decide) (by omega)
      omega
    have hp1 : 10 ≤ 10 ^ (j + 1) := by
      have : 10 ^ 1 ≤ 10 ^ (j + 1) := Nat.pow_le_pow_right (by decide) (by omega)
      omega
    have en : nI (10 ^ (j + 1)) / 10 = nI (10 ^ j) := by
      rw [show (10 : Int32) = nI 10 from rfl, nI_div (by omega) (by decide), Nat.pow_succ, Nat.mul_div_cancel _ (by decide)]
    unfold V_X4_writeNumber_22
    rw [en]
    refine ⟨fun c => absurd ((nI_leI (b := 1) (by omega) (by decide)).mp c) (by omega), fun _ => ⟨fun c => ?_, fun c => eqI (ih n (by omega) (by omega) (fun G1 h1 e1 => k G1 ?_ e1))⟩⟩
    · have hle := (nI_leI (by omega) (by omega)).mp c
      refine c_dg ha (j + 2) n out G (by omega) (by omega) h (fun G1 h1 e1 => k G1 ?_ e1)
      show CG x G0 φ b lo hi sv rc hp (ads out (if 10 ^ (j + 1) ≤ a then dg a (j + 2) else f25 a j)) inp cn LV LC LK p G1
      rw [if_pos hle]; exact h1
    · have hle : ¬ 10 ^ (j + 1) ≤ a := fun z => c (nI_le z (by omega))
      show CG x G0 φ b lo hi sv rc hp (ads out (if 10 ^ (j + 1) ≤ a then dg a (j + 2) else f25 a j)) inp cn LV LC LK p G1
      rw [if_neg hle]; exact h1
theorem c_fgs {m : Int} {R : SG → Prop} (hm : i16 m) (hn : 100 ≤ n) (h : CG x G0 φ b lo hi sv rc hp out inp cn LV LC LK p G) (k : ∀ G1, CG x G0 φ b lo hi sv rc hp (ads out (fgs m)) inp cn LV LC LK p G1 → G1 4 = G 4 → R G1) : V_X4_writeNumber N n (iI m) G R := by
  have b1 := hm.1
  have b2 := hm.2
  have hle : (0 : Int32) ≤ iI m ↔ 0 ≤ m := by rw [show (0 : Int32) = iI 0 from rfl]; exact iI_le (by decide) (by decide) (by omega) (by omega)
  have e4 : (10000 : Int32) = nI (10 ^ 4) := rfl
  unfold V_X4_writeNumber
  rw [e4]
  refine ⟨fun c => eqI (eqI ?_), fun c => ?_⟩
  · have hc := hle.mp c
    rw [if_pos c, show iI m = nI m.natAbs by rw [← iI_nat]; congr 1; omega]
    refine c_f25 (by omega) h 4 n (by decide) (by omega) (fun G1 h1 e1 => k G1 ?_ e1)
    have : fgs m = f25 m.natAbs 4 := by
      show (if m < 0 then [45] else []) ++ f25 m.natAbs 4 = _
      rw [if_neg (by omega)]; rfl
    rw [this]; exact h1
  · have hc : m < 0 := by
      rcases Int.lt_or_le m 0 with z | z
      · exact z
      · exact absurd (hle.mpr z) c
    refine c_addc (c := 45) h (fun G1 h1 e1 => eqI (eqI ?_))
    rw [if_neg c, show (0 : Int32) - iI m = nI m.natAbs by rw [show (0 : Int32) = iI 0 from rfl, iI_sub, ← iI_nat]; congr 1; omega]
    refine c_f25 (by omega) h1 4 n (by decide) (by omega) (fun G2 h2 e2 => k G2 ?_ (e2.trans e1))
    have : fgs m = 45 :: f25 m.natAbs 4 := by
      show (if m < 0 then [45] else []) ++ f25 m.natAbs 4 = _
      rw [if_pos hc]; rfl
    rw [this]; exact h2
theorem c_nameL {s : Nat} {R : SG → Prop} (hX : XC x G0 N) (hs : s < x.sy) : ∀ (m t n : Nat) (out : List Nat) (G : SG), t + m = (x.nam s).length → m < n → CG x G0 φ b lo hi sv rc hp out inp cn LV LC LK p G → (∀ G1, CG x G0 φ b lo hi sv rc hp (ads out ((x.nam s).drop t)) inp cn LV LC LK p G1 → G1 4 = G 4 → R G1) → V_X4_writeName_2 N R n (nI s) (nI t) G := by
  intro m
  have hno := hX.1.2.2.1
  have h40 := hno.2.1
  obtain ⟨h5, hl⟩ := hno.2.2.2.2.2 s hs
  have hlen : ∀ (out : List Nat) (G : SG) (P : Int32 → SG → Prop), CG x G0 φ b lo hi sv rc hp out inp cn LV LC LK p G → P (nI (x.nam s).length) G → V_X9_length (nI s) (G 1) (fun r u => ∀ g : SG, g = uo G 1 u → P r g) := fun out G P h k => by
    unfold V_X9_length
    refine c_has h.1.1.1 hs h40 ⟨fun c => absurd c (by decide), fun _ => ⟨vp_in_nI (by omega) (by decide), eqI ?_⟩⟩
    rw [nI_clamp (by omega), (h.1.1.2.1 s hs).1, show uo G 1 (G 1) = G from uo_id rfl]
    exact k
  induction m with
  | zero =>
    intro t n out G ht hn h k
    obtain ⟨n, rfl⟩ : ∃ n', n = n' + 1 := ⟨n - 1, by omega⟩
    have e : t = (x.nam s).length := by omega
    subst e
    unfold V_X4_writeName_2
    refine hlen out G _ h ⟨fun _ => k G ?_ rfl, fun c => absurd (Int32.le_refl _) c⟩
    rw [List.drop_of_length_le (Nat.le_refl _)]; exact h
  | succ m ih =>
    intro t n out G ht hn h k
    obtain ⟨n, rfl⟩ : ∃ n', n = n' + 1 := ⟨n - 1, by omega⟩
    unfold V_X4_writeName_2
    refine hlen out G _ h ⟨fun c => absurd ((nI_leI (by omega) (by omega)).mp c) (by omega), fun _ => ?_⟩
    unfold V_X9_letter
    refine eqI ?_
    have e : nI s * 5 + nI t = nI (5 * s + t) := by
      rw [show (5 : Int32) = nI 5 from rfl, nI_mul, nI_add, Nat.mul_comm]
    have hrow := (h.1.1.2.1 s hs).2.2.2.2 t (by omega)
    have hmem : (x.nam s).getD t 0 ∈ x.nam s := by
      rw [List.getD_eq_getElem?_getD, List.getElem?_eq_getElem (show t < (x.nam s).length by omega)]; exact List.getElem_mem _
    have hc := hl _ hmem
    rw [e]
    refine ⟨fun c2 => absurd c2 (nI_pos (by omega)), fun _ => ⟨fun c2 => absurd c2 (nI_ge (b := 200) (by omega) (by decide)), fun _ => ⟨vp_in_nI (by omega) (by decide), ?_⟩⟩⟩
    rw [nI_clamp (by omega), hrow]
    refine ⟨?_, eqI ?_⟩
    · have h9 := nar_char (x := (x.nam s).getD t 0) (by omega)
      show Value.int ((nI ((x.nam s).getD t 0)).toUInt32 % 65536).toInt32 = _
      exact congrArg Value.int h9
    · rw [show uo G 1 (G 1) = G from uo_id rfl]
      refine c_addc h (fun G1 h1 e1 => eqI ?_)
      rw [nI_1]
      refine ih (t + 1) n _ G1 (by omega) (by omega) h1 (fun G2 h2 e2 => k G2 ?_ (e2.trans e1))
      have ed : (x.nam s).drop t = (x.nam s).getD t 0 :: (x.nam s).drop (t + 1) := by
        rw [List.getD_eq_getElem?_getD, List.getElem?_eq_getElem (show t < (x.nam s).length by omega)]
        exact List.drop_eq_getElem_cons (by omega)
      rw [ed]; exact h2
theorem c_name {s : Nat} {R : SG → Prop} (hX : XC x G0 N) (hs : s < 40) (hn : 10 ≤ n) (h : CG x G0 φ b lo hi sv rc hp out inp cn LV LC LK p G) (k : ∀ G1, CG x G0 φ b lo hi sv rc hp (ads out (if s < x.sy then x.nam s else [])) inp cn LV LC LK p G1 → G1 4 = G 4 → R G1) : V_X4_writeName N n (nI s) G R := by
  unfold V_X4_writeName
  refine eqI ?_
  by_cases hsy : s < x.sy
  · rw [if_pos hsy] at k
    have h5 := (hX.1.2.2.1.2.2.2.2.2 s hsy).1
    exact c_nameL hX hsy (x.nam s).length 0 n out G (by omega) (by omega) h k
  · rw [if_neg hsy] at k
    obtain ⟨n, rfl⟩ : ∃ n', n = n' + 1 := ⟨n - 1, by omega⟩
    unfold V_X4_writeName_2 V_X9_length
    refine c_hasNo h.1.1.1 (Or.inr (nI_le (by omega) (by omega))) ⟨fun _ => eqI ⟨fun _ => ?_, fun c => absurd (Int32.le_refl _) c⟩, fun c => absurd rfl c⟩
    rw [show uo G 1 (G 1) = G from uo_id rfl]
    exact k G h rfl
theorem c_carP {a : Va} {P : Int32 → SG → Prop} (hX : XC x G0 N) (hu : usum hp 168 ≤ x.z) (h : CG x G0 φ b lo hi sv rc hp out inp cn LV LC LK p G) (hv : VV x.K x.C hp a) (hk : vkd a = 4) (k : P (cw φ (prp rc hp a).1) G) : V_X2_car N (cw φ a) (G 2) (fun r u => ∀ g : SG, g = uo G 2 u → P r g) := by
  obtain ⟨ad, e1, e2, e3, e4⟩ := cel_cls hX hu h hv (prp_cel hv hk)
  obtain ⟨n1, n2, n3⟩ := CG_N hX h
  have hR := CWd.rng hX hu h.1
  unfold V_X2_car
  refine c_tag hv hR ⟨fun c => absurd (by rw [hk]; rfl) c, fun _ => c_held hv hR ?_⟩
  rw [e1, iI_nat]
  refine v_hat (by omega) (by omega) (eqI ?_)
  rw [e3, show uo G 2 (G 2) = G from uo_id rfl]; exact k
theorem c_cdrP {a : Va} {P : Int32 → SG → Prop} (hX : XC x G0 N) (hu : usum hp 168 ≤ x.z) (h : CG x G0 φ b lo hi sv rc hp out inp cn LV LC LK p G) (hv : VV x.K x.C hp a) (hk : vkd a = 4) (k : P (cw φ (prp rc hp a).2) G) : V_X2_cdr N (cw φ a) (G 2) (fun r u => ∀ g : SG, g = uo G 2 u → P r g) := by
  obtain ⟨ad, e1, e2, e3, e4⟩ := cel_cls hX hu h hv (prp_cel hv hk)
  obtain ⟨n1, n2, n3⟩ := CG_N hX h
  have hR := CWd.rng hX hu h.1
  unfold V_X2_cdr
  refine c_tag hv hR ⟨fun c => absurd (by rw [hk]; rfl) c, fun _ => c_held hv hR ?_⟩
  rw [e1, iI_nat, nI_1]
  refine v_hat (by omega) (by omega) (eqI ?_)
  rw [e4, show uo G 2 (G 2) = G from uo_id rfl]; exact k
end PC
section PD
variable {x : Cx} {G0 G : SG} {N : Nat} {φ : Nat → Nat} {b lo hi : Nat} {sv : Nat → Option Va} {rc : Nat → Va × Va} {hp : Nat → Option Ob} {out : List Nat} {inp : List Int} {cn : Nat → Int32} {LV LC LK : List Gw} {p n i : Nat} {post : Int32 → SG → Prop}
/-- how one value is written -/
def WrE (x : Cx) (G0 : SG) (φ : Nat → Nat) (b lo hi : Nat) (sv : Nat → Option Va) (rc : Nat → Va × Va) (hp : Nat → Option Ob) (inp : List Int) (cn : Nat → Int32) (LV LC LK : List Gw) (p D : Nat) (f : Va → List Nat → List Nat) (E : Int32 → Int32 → SG → (SG → Prop) → Prop) : Prop := ∀ (v : Va) (out : List Nat) (G : SG) (R : SG → Prop), VV x.K x.C hp v → PW x sv rc hp out inp → CG x G0 φ b lo hi sv rc hp out inp cn LV LC LK p G → (∀ G1, CG x G0 φ b lo hi sv rc hp (f v out) inp cn LV LC LK p G1 → G1 4 = G 4 → R G1) → E (cw φ v) (nI D) G R
theorem PW_out {out1 : List Nat} (h : PW x sv rc hp out inp) (ho : OKo out1) : PW x sv rc hp out1 inp := by
  obtain ⟨w1, w2, w3, w4, w5, w6, w7, w8, w9⟩ := h
  exact ⟨w1, w2, w3, w4, w5, w6, w7, ho, w9⟩
theorem PW_ok (h : PW x sv rc hp out inp) : OKo out := h.2.2.2.2.2.2.2.1
theorem c_w117 {D : Nat} {v : Va} {f : Va → List Nat → List Nat} {E : Int32 → Int32 → SG → (SG → Prop) → Prop} {R : SG → Prop} (hX : XC x G0 N) (hW : PW x sv rc hp out inp) (hE : WrE x G0 φ b lo hi sv rc hp inp cn LV LC LK p (D + 1) f E) (hn : 10 ≤ n) (hv : VV x.K x.C hp v) (hk : vkd v = 4 → 200 ≤ out.length) (h : CG x G0 φ b lo hi sv rc hp out inp cn LV LC LK p G) (k : ∀ G1, CG x G0 φ b lo hi sv rc hp (if vkd v = 1 then add1 out 41 else if 200 ≤ out.length then out else add1 (f v (ads out [32, 46, 32])) 41) inp cn LV LC LK p G1 → G1 4 = G 4 → R G1) : V_X4_writeList_117 N E R n (nI D) (cw φ v) G := by
  have hu := hW.2.2.2.2.2.2.1
  have hR := CWd.rng hX hu h.1
  have hnil := cw_nil hv hR
  have hk1 : vkd v = 1 ↔ v = vnil := by
    rcases v with _ | v | v | ⟨v, v2⟩ | v | v | v
    · exact ⟨fun _ => rfl, fun _ => rfl⟩
    · exact ⟨fun c => absurd c (show ¬ 2 = 1 by decide), fun c => (by cases c)⟩
    · exact ⟨fun c => absurd c (show ¬ 3 = 1 by decide), fun c => (by cases c)⟩
    · exact ⟨fun c => absurd c (show ¬ 4 = 1 by decide), fun c => (by cases c)⟩
    · exact ⟨fun c => absurd c (show ¬ 4 = 1 by decide), fun c => (by cases c)⟩
    · exact ⟨fun c => absurd c (show ¬ 5 = 1 by decide), fun c => (by cases c)⟩
    · exact ⟨fun c => absurd c (show ¬ 6 = 1 by decide), fun c => (by cases c)⟩
  unfold V_X4_writeList_117
  refine ⟨fun c => ?_, fun c => c_fullc h (fun hl => ⟨fun c2 => absurd rfl c2, fun _ => ?_⟩) (fun hl => ⟨fun _ => ?_, fun c2 => absurd c2 (by decide)⟩)⟩
  · have e : v = vnil := hnil.mp c
    rw [if_pos (hk1.mpr e)] at k
    exact c_addc (c := 41) h k
  · have e : ¬ vkd v = 1 := fun c2 => c (hnil.mpr (hk1.mp c2))
    rw [if_neg e, if_neg (by omega)] at k
    unfold V_X4_writeText
    refine eqI (c_text (Or.inr ⟨rfl, rfl⟩) 3 0 n out G rfl (by omega) h (fun G1 h1 e1 => ?_))
    rw [nI_1]
    refine hE v _ G1 _ hv (PW_out hW (ads_ok _ (PW_ok hW) (by decide))) h1 (fun G2 h2 e2 => c_addc (c := 41) h2 (fun G3 h3 e3 => k G3 h3 (e3.trans (e2.trans e1))))
  · have e : ¬ vkd v = 1 := fun c2 => c (hnil.mpr (hk1.mp c2))
    rw [if_neg e, if_pos hl] at k
    refine c_addc (c := 41) h (fun G1 h1 e1 => k G1 ?_ e1)
    rw [add1_full hl] at h1; exact h1
theorem c_lopP {D : Nat} {f : Va → List Nat → List Nat} {E : Int32 → Int32 → SG → (SG → Prop) → Prop} {R : SG → Prop} (hX : XC x G0 N) (hE : WrE x G0 φ b lo hi sv rc hp inp cn LV LC LK p (D + 1) f E) (hf : ∀ v out, out.length ≤ (f v out).length) (hfo : ∀ v out, OKo out → OKo (f v out)) : ∀ (m t n : Nat) (v : Va) (out : List Nat) (G : SG), t + m = 200 → m + 20 < n → t ≤ out.length → PW x sv rc hp out inp → VV x.K x.C hp v → CG x G0 φ b lo hi sv rc hp out inp cn LV LC LK p G → (∀ G1, CG x G0 φ b lo hi sv rc hp (lop (prp rc hp) f 200 v out) inp cn LV LC LK p G1 → G1 4 = G 4 → R G1) → V_X4_writeList_52 N E R n (nI D) (cw φ v) (nI t) G := by
  intro m
  induction m with
  | zero =>
    intro t n v out G ht hn htl hW hv h k
    obtain ⟨n, rfl⟩ : ∃ n', n = n' + 1 := ⟨n - 1, by omega⟩
    have e : t = 200 := by omega
    subst e
    unfold V_X4_writeList_52
    refine ⟨fun _ => c_w117 hX hW hE (by omega) hv (fun _ => htl) h (fun G1 h1 e1 => k G1 ?_ e1), fun c => absurd (Int32.le_refl _) c⟩
    rw [lop_full 200 htl]
    rw [if_pos htl] at h1
    split at h1
    · rw [add1_full htl] at h1; exact h1
    · exact h1
  | succ m ih =>
    intro t n v out G ht hn htl hW hv h k
    obtain ⟨n, rfl⟩ : ∃ n', n = n' + 1 := ⟨n - 1, by omega⟩
    have hu := hW.2.2.2.2.2.2.1
    have hR := CWd.rng hX hu h.1
    have hk7 := va_kd_lt v
    rw [lop_eq hf] at k
    unfold V_X4_writeList_52
    refine ⟨fun c => absurd ((nI_leI (a := 200) (by decide) (by omega)).mp c) (by omega), fun _ => c_tag hv hR ⟨fun c => ?_, fun c => ?_⟩⟩
    · have hk4 : ¬ vkd v = 4 := fun e => c (by rw [e]; rfl)
      rw [if_neg hk4] at k
      exact c_w117 hX hW hE (by omega) hv (fun e => absurd e hk4) h k
    · have hk4 : vkd v = 4 := (nI_eq (b := 4) (by omega) (by decide)).mp c
      rw [if_pos hk4, if_neg (by omega)] at k
      refine c_fullc h (fun hl => ⟨fun c2 => absurd rfl c2, fun _ => ?_⟩) (fun hl => ⟨fun _ => ?_, fun c2 => absurd c2 (by decide)⟩)
      · rw [if_neg (by omega)] at k
        obtain ⟨hv1, hv2⟩ := cel_VV hW hv (prp_cel (rc := rc) hv hk4)
        refine c_addc (c := 32) h (fun G1 h1 e1 => ?_)
        have hW1 := PW_out hW (add1_ok (c := 32) (PW_ok hW) (by decide))
        refine c_carP hX hu h1 hv hk4 ?_
        rw [nI_1]
        refine hE _ _ G1 _ hv1 hW1 h1 (fun G2 h2 e2 => c_cdrP hX hu h2 hv hk4 (eqI ?_))
        rw [nI_1]
        refine ih (t + 1) n _ _ G2 (by omega) (by omega) ?_ (PW_out hW (hfo _ _ (add1_ok (PW_ok hW) (by decide)))) hv2 h2 (fun G3 h3 e3 => k G3 h3 (e3.trans (e2.trans e1)))
        have := hf (prp rc hp v).1 (add1 out 32)
        rw [add1_lt hl] at this
        omega
      · rw [if_pos hl] at k
        refine c_w117 hX hW hE (by omega) hv (fun _ => hl) h (fun G1 h1 e1 => k G1 ?_ e1)
        rw [if_neg (by omega), if_pos hl] at h1
        exact h1
theorem c_vlp {D s : Nat} {L : List Va} {f : Va → List Nat → List Nat} {E : Int32 → Int32 → SG → (SG → Prop) → Prop} {R : SG → Prop} (hX : XC x G0 N) (hs : s < 168) (ho : hp s = some (ovec L)) (hE : WrE x G0 φ b lo hi sv rc hp inp cn LV LC LK p (D + 1) f E) (hfo : ∀ v out, OKo out → OKo (f v out)) : ∀ (m t n : Nat) (out : List Nat) (G : SG), t + m = L.length → m < n → PW x sv rc hp out inp → CG x G0 φ b lo hi sv rc hp out inp cn LV LC LK p G → (∀ G1, CG x G0 φ b lo hi sv rc hp (vlp f (decide (t = 0)) (L.drop t) out) inp cn LV LC LK p G1 → G1 4 = G 4 → R G1) → V_X4_writeVector_37 N E R n (cw φ (vvec s)) (nI D) (nI L.length) (nI t) G := by
  intro m
  induction m with
  | zero =>
    intro t n out G ht hn hW h k
    obtain ⟨n, rfl⟩ : ∃ n', n = n' + 1 := ⟨n - 1, by omega⟩
    have e : t = L.length := by omega
    rw [List.drop_of_length_le (by omega)] at k
    unfold V_X4_writeVector_37
    rw [e]
    exact ⟨fun _ => c_addc (c := 93) h k, fun c => absurd (Int32.le_refl _) c⟩
  | succ m ih =>
    intro t n out G ht hn hW h k
    obtain ⟨n, rfl⟩ : ∃ n', n = n' + 1 := ⟨n - 1, by omega⟩
    have hu := hW.2.2.2.2.2.2.1
    have hR := CWd.rng hX hu h.1
    obtain ⟨l7, hlV⟩ := vec_len hW ho
    have ht2 : t < L.length := by omega
    have hmem := l_getD ht2
    have ed : L.drop t = L.getD t none :: L.drop (t + 1) := by
      rw [List.getD_eq_getElem?_getD, List.getElem?_eq_getElem ht2]
      exact List.drop_eq_getElem_cons ht2
    rw [ed] at k
    have hgo : ∀ (o1 : List Nat) (G1 : SG), OKo o1 → CG x G0 φ b lo hi sv rc hp o1 inp cn LV LC LK p G1 → G1 4 = G 4 → (∀ G2, CG x G0 φ b lo hi sv rc hp (vlp f false (L.drop (t + 1)) (f (L.getD t none) o1)) inp cn LV LC LK p G2 → G2 4 = G1 4 → R G2) → V_X4_writeVector_67 N E (fun x1 x2 x3 x4 G => V_X4_writeVector_37 N E R n x1 x2 x3 x4 G) R n (cw φ (vvec s)) (nI D) (nI L.length) (nI t) G1 := fun o1 G1 ho1 h1 e1 kk => by
      obtain ⟨n1, n2, n3⟩ := CG_N hX h1
      obtain ⟨-, a2, a3, a4⟩ := h1.1.2.2.1.1 s _ ho
      have a3 : φ s + (L.length + 1) ≤ b + usum hp 168 := a3
      have hat : G1 2 1 (φ s + 1 + t) = cw φ (L.getD t none) := by
        have := a4 (t + 1) (by show t + 1 < L.length + 1; omega)
        rw [show φ s + 1 + t = φ s + (t + 1) by omega, this]
        show (L.map (cw φ)).getD t 0 = _
        rw [List.getD_eq_getElem?_getD, List.getElem?_map, List.getD_eq_getElem?_getD, List.getElem?_eq_getElem ht2]; rfl
      unfold V_X4_writeVector_67
      refine c_held (v := vvec s) (K := x.K) (C := x.C) ⟨hs, L, ho⟩ (CWd.rng hX hu h1.1) ?_
      rw [show hld φ (vvec s) = ((φ s : Nat) : Int) from rfl, iI_nat, nI_1, nI_add]
      refine v_hat (by omega) (by omega) (eqI ?_)
      rw [hat, show uo G1 2 (G1 2) = G1 from uo_id rfl, nI_1]
      refine hE _ _ G1 _ (hlV _ hmem) (PW_out hW ho1) h1 (fun G2 h2 e2 => eqI ?_)
      rw [nI_1]
      refine ih (t + 1) n _ G2 (by omega) (by omega) (PW_out hW (hfo _ _ ho1)) h2 (fun G3 h3 e3 => kk G3 ?_ (e3.trans e2))
      rw [decide_eq_false (show ¬ t + 1 = 0 by omega)] at h3
      exact h3
    unfold V_X4_writeVector_37
    refine ⟨fun c => absurd ((nI_leI (by omega) (by omega)).mp c) (by omega), fun _ => c_fullc h (fun hl => ⟨fun c2 => absurd rfl c2, fun _ => ⟨fun c2 => ?_, fun c2 => ?_⟩⟩) (fun hl => ⟨fun _ => ?_, fun c2 => absurd c2 (by decide)⟩)⟩
    · have e0 : t = 0 := by have := (nI_leI (b := 0) (by omega) (by decide)).mp c2; omega
      refine hgo out G (PW_ok hW) h rfl (fun G2 h2 e2 => k G2 ?_ e2)
      show CG x G0 φ b lo hi sv rc hp (if 200 ≤ out.length then out else vlp f false (L.drop (t + 1)) (f (L.getD t none) (if decide (t = 0) then out else add1 out 32))) inp cn LV LC LK p G2
      rw [if_neg (by omega), decide_eq_true e0, if_pos rfl]; exact h2
    · have e0 : ¬ t = 0 := fun e => c2 (by rw [e]; exact Int32.le_refl _)
      refine c_addc (c := 32) h (fun G1 h1 e1 => hgo _ G1 (add1_ok (PW_ok hW) (by decide)) h1 e1 (fun G2 h2 e2 => k G2 ?_ (e2.trans e1)))
      show CG x G0 φ b lo hi sv rc hp (if 200 ≤ out.length then out else vlp f false (L.drop (t + 1)) (f (L.getD t none) (if decide (t = 0) then out else add1 out 32))) inp cn LV LC LK p G2
      rw [if_neg (by omega), decide_eq_false e0, if_neg (by decide)]; exact h2
    · refine c_addc (c := 93) h (fun G1 h1 e1 => k G1 ?_ e1)
      rw [add1_full hl] at h1
      rw [vlp_full hl]; exact h1
theorem tx_ok (hX : XC x G0 N) : ∀ v, ∀ c ∈ txt x.sy x.nam v, c < 65536 := fun v c hc => by
  have := txt_ok hX.1.2.2.1 v c hc
  omega
theorem c_write (hX : XC x G0 N) (hn : 1000 ≤ n) : ∀ (e D : Nat), D + e = 8 → WrE x G0 φ b lo hi sv rc hp inp cn LV LC LK p D (shw (prp rc hp) (vel hp) (txt x.sy x.nam) e) (fun a d G R => V_X4_write N n (e + 2) a d G R) := by
  have atom : ∀ (d : Nat) (D : Int32) (v : Va) (out : List Nat) (G : SG) (R : SG → Prop), VV x.K x.C hp v → PW x sv rc hp out inp → CG x G0 φ b lo hi sv rc hp out inp cn LV LC LK p G → ¬ vkd v = 4 → ¬ vkd v = 5 → (∀ G1, CG x G0 φ b lo hi sv rc hp (ads out (txt x.sy x.nam v)) inp cn LV LC LK p G1 → G1 4 = G 4 → R G1) → V_X4_write N n (d + 1) (cw φ v) D G R := by
    intro d D v out G R hv hW h n4 n5 k
    have hu := hW.2.2.2.2.2.2.1
    have hR := CWd.rng hX hu h.1
    have hv0 := hv
    unfold V_X4_write
    refine c_tag hv hR ?_
    rcases v with _ | v | v | ⟨v, v2⟩ | v | v | v
    · refine ⟨fun c => absurd c (show ¬ nI 1 = 2 by decide), fun c => absurd c (show ¬ nI 1 = 3 by decide), fun c => absurd c (show ¬ nI 1 = 4 by decide), fun c => absurd c (show ¬ nI 1 = 5 by decide), fun c => absurd c (show ¬ nI 1 = 6 by decide), fun _ _ _ _ _ => ?_⟩
      unfold V_X4_writeText
      exact eqI (c_text (Or.inl ⟨rfl, rfl⟩) 3 0 n out G rfl (by omega) h k)
    · refine ⟨fun _ => c_heldM hv (c_fgs hv (by omega) h k), fun c => absurd c (show ¬ nI 2 = 3 by decide), fun c => absurd c (show ¬ nI 2 = 4 by decide), fun c => absurd c (show ¬ nI 2 = 5 by decide), fun c => absurd c (show ¬ nI 2 = 6 by decide), fun c => absurd (show nI 2 = 2 from rfl) c⟩
    · refine ⟨fun c => absurd c (show ¬ nI 3 = 2 by decide), fun _ => c_held hv0 hR ?_, fun c => absurd c (show ¬ nI 3 = 4 by decide), fun c => absurd c (show ¬ nI 3 = 5 by decide), fun c => absurd c (show ¬ nI 3 = 6 by decide), fun _ c => absurd (show nI 3 = 3 from rfl) c⟩
      rw [show hld φ (some (.inr (.inl v))) = ((v : Nat) : Int) from rfl, iI_nat]
      exact c_name hX hv (by omega) h k
    · exact absurd (show vkd (vrd v v2) = 4 from rfl) n4
    · exact absurd (show vkd (vcel v) = 4 from rfl) n4
    · exact absurd (show vkd (vvec v) = 5 from rfl) n5
    · exact ⟨fun c => absurd c (show ¬ nI 6 = 2 by decide), fun c => absurd c (show ¬ nI 6 = 3 by decide), fun c => absurd c (show ¬ nI 6 = 4 by decide), fun c => absurd c (show ¬ nI 6 = 5 by decide), fun _ => c_addc (c := 35) h k, fun _ _ _ _ c => absurd (show nI 6 = 6 from rfl) c⟩
  have sel : ∀ (d : Nat) (D : Int32) (v : Va) (out : List Nat) (G : SG) (R : SG → Prop), VV x.K x.C hp v → PW x sv rc hp out inp → CG x G0 φ b lo hi sv rc hp out inp cn LV LC LK p G → (vkd v = 4 → V_X4_writeList N n (fun a b G p => V_X4_write N n d a b G p) (cw φ v) D G (fun g => R g)) → (vkd v = 5 → V_X4_writeVector N n (fun a b G p => V_X4_write N n d a b G p) (cw φ v) D G (fun g => R g)) → (¬ vkd v = 4 → ¬ vkd v = 5 → V_X4_write N n (d + 1) (cw φ v) D G R) → V_X4_write N n (d + 1) (cw φ v) D G R := by
    intro d D v out G R hv hW h k4 k5 k0
    have hu := hW.2.2.2.2.2.2.1
    have hR := CWd.rng hX hu h.1
    by_cases n4 : vkd v = 4
    · unfold V_X4_write
      refine c_tag hv hR ?_
      rw [n4]
      exact ⟨fun c => absurd c (by decide), fun c => absurd c (by decide), fun _ => k4 n4, fun c => absurd c (by decide), fun c => absurd c (by decide), fun _ _ c => absurd rfl c⟩
    · by_cases n5 : vkd v = 5
      · unfold V_X4_write
        refine c_tag hv hR ?_
        rw [n5]
        exact ⟨fun c => absurd c (by decide), fun c => absurd c (by decide), fun c => absurd c (by decide), fun _ => k5 n5, fun c => absurd c (by decide), fun _ _ _ c => absurd rfl c⟩
      · exact k0 n4 n5
  intro e
  induction e with
  | zero =>
    intro D hD v out G R hv hW h k
    have eD : D = 8 := by omega
    subst eD
    refine sel 1 _ v out G R hv hW h (fun n4 => ?_) (fun n5 => ?_) (fun n4 n5 => atom 1 _ v out G R hv hW h n4 n5 (fun G1 h1 e1 => k G1 ?_ e1))
    · unfold V_X4_writeList
      refine ⟨fun c => absurd c (by decide), fun _ => c_addc (c := 42) h (fun G1 h1 e1 => k G1 ?_ e1)⟩
      show CG x G0 φ b lo hi sv rc hp (if vkd v = 4 ∨ vkd v = 5 then add1 out 42 else _) inp cn LV LC LK p G1
      rw [if_pos (Or.inl n4)]; exact h1
    · unfold V_X4_writeVector
      refine ⟨fun c => absurd c (by decide), fun _ => c_addc (c := 42) h (fun G1 h1 e1 => k G1 ?_ e1)⟩
      show CG x G0 φ b lo hi sv rc hp (if vkd v = 4 ∨ vkd v = 5 then add1 out 42 else _) inp cn LV LC LK p G1
      rw [if_pos (Or.inr n5)]; exact h1
    · show CG x G0 φ b lo hi sv rc hp (if vkd v = 4 ∨ vkd v = 5 then add1 out 42 else ads out (txt x.sy x.nam v)) inp cn LV LC LK p G1
      rw [if_neg (fun c => by rcases c with c | c; exact n4 c; exact n5 c)]; exact h1
  | succ e ih =>
    intro D hD v out G R hv hW h k
    have ihE := ih (D + 1) (by omega)
    have hf : ∀ v out, out.length ≤ (shw (prp rc hp) (vel hp) (txt x.sy x.nam) e v out).length := fun v out => shw_le e v out
    have hfo : ∀ v out, OKo out → OKo (shw (prp rc hp) (vel hp) (txt x.sy x.nam) e v out) := fun v out ho => shw_ok (tx_ok hX) e v out ho
    have hu := hW.2.2.2.2.2.2.1
    have hlt8 : nI D < 8 := nI_lt (b := 8) (by omega) (by decide)
    refine sel (e + 2) _ v out G R hv hW h (fun n4 => ?_) (fun n5 => ?_) (fun n4 n5 => atom (e + 2) _ v out G R hv hW h n4 n5 (fun G1 h1 e1 => k G1 ?_ e1))
    · obtain ⟨hv1, hv2⟩ := cel_VV hW hv (prp_cel (rc := rc) hv n4)
      unfold V_X4_writeList
      refine ⟨fun _ => c_addc (c := 40) h (fun G1 h1 e1 => c_carP hX hu h1 hv n4 ?_), fun c => absurd hlt8 c⟩
      rw [nI_1]
      have ok1 := add1_ok (c := 40) (PW_ok hW) (by decide)
      refine ihE _ _ G1 _ hv1 (PW_out hW ok1) h1 (fun G2 h2 e2 => c_cdrP hX hu h2 hv n4 (eqI ?_))
      refine c_lopP hX ihE hf hfo 200 0 n _ _ G2 (by decide) (by omega) (Nat.zero_le _) (PW_out hW (hfo _ _ ok1)) hv2 h2 (fun G3 h3 e3 => k G3 ?_ (e3.trans (e2.trans e1)))
      show CG x G0 φ b lo hi sv rc hp (if vkd v = 4 then lop (prp rc hp) (fun w o => shw (prp rc hp) (vel hp) (txt x.sy x.nam) e w o) 200 (prp rc hp v).2 (shw (prp rc hp) (vel hp) (txt x.sy x.nam) e (prp rc hp v).1 (add1 out 40)) else _) inp cn LV LC LK p G3
      rw [if_pos n4]; exact h3
    · obtain ⟨s, L, rfl, hs, ho⟩ := vec_of hv n5
      unfold V_X4_writeVector
      refine ⟨fun _ => c_addc (c := 91) h (fun G1 h1 e1 => ?_), fun c => absurd hlt8 c⟩
      have ok1 := add1_ok (c := 91) (PW_ok hW) (by decide)
      refine c_vlen hX (PW_out hW ok1) h1 ho (eqI ?_)
      have l7 := (vec_len hW ho).1
      refine c_vlp hX hs ho ihE hfo L.length 0 n _ G1 (by omega) (by omega) (PW_out hW ok1) h1 (fun G2 h2 e2 => k G2 ?_ (e2.trans e1))
      show CG x G0 φ b lo hi sv rc hp (if vkd (vvec s) = 4 then _ else if vkd (vvec s) = 5 then vlp (fun w o => shw (prp rc hp) (vel hp) (txt x.sy x.nam) e w o) true (vel hp (vvec s)) (add1 out 91) else _) inp cn LV LC LK p G2
      rw [if_neg (show ¬ vkd (vvec s) = 4 from fun c => absurd (n5.symm.trans c) (by decide)), if_pos n5, vel_vec ho]; exact h2
    · show CG x G0 φ b lo hi sv rc hp (if vkd v = 4 then _ else if vkd v = 5 then _ else ads out (txt x.sy x.nam v)) inp cn LV LC LK p G1
      rw [if_neg n4, if_neg n5]; exact h1
end PD
