-- ===== operators on numbers =====
theorem iI_self (w : Int32) : iI w.toInt = w := Int32.ofInt_toInt w
/-- within 16 bits -/
def i16 (n : Int) : Prop := -32768 ≤ n ∧ n ≤ 32767
theorem shr15 (x : Int32) (h : i16 x.toInt) : x.toBitVec.sshiftRight 15 = 0 ∨ x.toBitVec.sshiftRight 15 = BitVec.allOnes 32 := by
  have e : (x.toBitVec.sshiftRight 15).toInt = x.toInt / 32768 := by
    rw [BitVec.toInt_sshiftRight, Int.shiftRight_eq_div_pow]; rfl
  obtain ⟨h1, h2⟩ := h
  rcases Int.lt_or_le x.toInt 0 with c | c
  · right
    apply BitVec.eq_of_toInt_eq
    rw [e, show (BitVec.allOnes 32).toInt = -1 by decide +kernel]
    omega
  · left
    apply BitVec.eq_of_toInt_eq
    rw [e, show (0 : BitVec 32).toInt = 0 by decide +kernel]
    omega
theorem shr15_back (x : Int32) (h : x.toBitVec.sshiftRight 15 = 0 ∨ x.toBitVec.sshiftRight 15 = BitVec.allOnes 32) : i16 x.toInt := by
  have e : (x.toBitVec.sshiftRight 15).toInt = x.toInt / 32768 := by
    rw [BitVec.toInt_sshiftRight, Int.shiftRight_eq_div_pow]; rfl
  rcases h with h | h
  · rw [h, show (0 : BitVec 32).toInt = 0 by decide +kernel] at e
    exact ⟨by omega, by omega⟩
  · rw [h, show (BitVec.allOnes 32).toInt = -1 by decide +kernel] at e
    exact ⟨by omega, by omega⟩
theorem bits_and (x y : Int32) (hx : i16 x.toInt) (hy : i16 y.toInt) : i16 (x &&& y).toInt := by
  apply shr15_back
  rw [Int32.toBitVec_and, BitVec.sshiftRight_and_distrib]
  rcases shr15 x hx with h | h <;> rcases shr15 y hy with h2 | h2 <;> rw [h, h2] <;> decide +kernel
theorem bits_or (x y : Int32) (hx : i16 x.toInt) (hy : i16 y.toInt) : i16 (x ||| y).toInt := by
  apply shr15_back
  rw [Int32.toBitVec_or, BitVec.sshiftRight_or_distrib]
  rcases shr15 x hx with h | h <;> rcases shr15 y hy with h2 | h2 <;> rw [h, h2] <;> decide +kernel
theorem bits_xor (x y : Int32) (hx : i16 x.toInt) (hy : i16 y.toInt) : i16 (x ^^^ y).toInt := by
  apply shr15_back
  rw [Int32.toBitVec_xor, BitVec.sshiftRight_xor_distrib]
  rcases shr15 x hx with h | h <;> rcases shr15 y hy with h2 | h2 <;> rw [h, h2] <;> decide +kernel
theorem i16_cast (w : Int32) : i16 (w.toInt16.toInt32).toInt := by
  have h1 := Int16.toInt_lt w.toInt16
  have h2 := Int16.le_toInt w.toInt16
  rw [Int16.toInt_toInt32]
  exact ⟨by omega, by omega⟩
theorem i16_lit {w : Int32} : (w < -32768 ↔ w.toInt < -32768) ∧ (w ≤ 32767 ↔ w.toInt ≤ 32767) ∧ (32767 < w ↔ 32767 < w.toInt) := by
  have e1 : (-32768 : Int32).toInt = -32768 := by decide +kernel
  have e2 : (32767 : Int32).toInt = 32767 := by decide +kernel
  exact ⟨by rw [Int32.lt_iff_toInt_lt, e1], by rw [Int32.le_iff_toInt_le, e2], by rw [Int32.lt_iff_toInt_lt, e2]⟩
theorem num_of {v : Va} (h : vkd v = 2) : ∃ m, v = vnum m := by
  rcases v with _ | v | v | v | v | v | v
  · exact absurd h (show ¬ 1 = 2 by decide)
  · exact ⟨v, rfl⟩
  · exact absurd h (show ¬ 3 = 2 by decide)
  · exact absurd h (show ¬ 4 = 2 by decide)
  · exact absurd h (show ¬ 4 = 2 by decide)
  · exact absurd h (show ¬ 5 = 2 by decide)
  · exact absurd h (show ¬ 6 = 2 by decide)
section NM
variable {x : Cx} {G0 G : SG} {N : Nat} {φ : Nat → Nat} {b lo hi : Nat} {sv : Nat → Option Va} {rc : Nat → Va × Va} {hp : Nat → Option Ob} {out : List Nat} {inp : List Int} {cn : Nat → Int32} {LV LC LK : List Gw} {p n i : Nat} {post : Int32 → SG → Prop}
theorem c_tag {v : Va} {R : Int32 → Prop} {K : Nat → Nat → Prop} {C : Nat → Prop} (hv : VV K C hp v) (hR : Rng φ hp) (k : R (nI (vkd v))) : V_X10_tag (cw φ v) R := by
  obtain ⟨r1, r2⟩ := VV.rng hv hR
  exact v_tag (by have := va_kd_lt v; omega) r1 r2 k
theorem c_held {v : Va} {R : Int32 → Prop} {K : Nat → Nat → Prop} {C : Nat → Prop} (hv : VV K C hp v) (hR : Rng φ hp) (k : R (iI (hld φ v))) : V_X10_held (cw φ v) R := by
  obtain ⟨r1, r2⟩ := VV.rng hv hR
  exact v_held (by have := va_kd_lt v; omega) r1 r2 k
theorem c_tagM {m : Int} {R : Int32 → Prop} (hm : i16 m) (k : R 2) : V_X10_tag (cw φ (vnum m)) R := v_tag (t := 2) (h := m) (by decide) (by have := hm.1; omega) (by have := hm.2; omega) k
theorem c_heldM {m : Int} {R : Int32 → Prop} (hm : i16 m) (k : R (iI m)) : V_X10_held (cw φ (vnum m)) R := v_held (t := 2) (h := m) (by decide) (by have := hm.1; omega) (by have := hm.2; omega) k
theorem c_num {w : Int32} {R : Int32 → Prop} (k : R (cw φ (vnum w.toInt))) : V_X10_of 2 w R := by
  have := v_of (t := 2) (h := w.toInt) (post := R) (by decide) k
  rw [iI_self] at this
  exact this
theorem c_ranged {w : Int32} {R : Int32 → SG → Prop} (k1 : i16 w.toInt → R (cw φ (vnum w.toInt)) G) (k0 : ¬ i16 w.toInt → R 1 (uo G 4 (us (G 4) 2 5))) : V_X7_ranged N w G R := by
  obtain ⟨l1, l2, l3⟩ := i16_lit (w := w)
  unfold V_X7_ranged V_X11_isInRange V_X7_failing
  refine ⟨fun c => ⟨fun _ => eqI (k0 (fun h => ?_)), fun c => absurd rfl c⟩, fun c => ⟨fun c2 => ⟨fun _ => eqI (k0 (fun h => ?_)), fun c => absurd rfl c⟩, fun c2 => ⟨fun c => absurd c (by decide), fun _ => c_num (k1 ⟨?_, ?_⟩)⟩⟩⟩
  · have := l1.mp c; have := h.1; omega
  · have := l3.mp c2; have := h.2; omega
  · have h9 : ¬ w.toInt < -32768 := fun h => c (l1.mpr h)
    omega
  · have h9 : ¬ 32767 < w.toInt := fun h => c2 (l3.mpr h)
    omega
theorem r_num {w : Int32} {R : Int32 → Prop} (h : i16 w.toInt) (k : R (enc (vnum w.toInt))) : V_X12_numeral w R := by
  have := r_numeral (n := w.toInt) (post := R) h.1 h.2 k
  rw [iI_self] at this
  exact this
theorem r_ranged {g : St} {k : StL} {w : Int32} {R : Int32 → St → StL → Prop} (k1 : i16 w.toInt → R (enc (vnum w.toInt)) g k) (k0 : ¬ i16 w.toInt → R 1048576 (us g 18 5) k) : V_X12_ranged w g k R := by
  obtain ⟨l1, l2, l3⟩ := i16_lit (w := w)
  unfold V_X12_ranged V_X12_fail
  refine ⟨fun c => eqI (k0 (fun h => ?_)), fun c => ⟨fun c2 => ?_, fun c2 => eqI (k0 (fun h => c2 (l2.mpr h.2)))⟩⟩
  · have := l1.mp c; have := h.1; omega
  · have h9 : ¬ w.toInt < -32768 := fun h => c (l1.mpr h)
    have h8 : i16 w.toInt := ⟨by omega, l2.mp c2⟩
    exact r_num h8 (k1 h8)
theorem c_truth {t : Bool} {R : Int32 → Prop} (k : R (cw φ (if t then vsym 0 else vnil))) : V_X7_truth (if t then 1 else 0) R := by
  unfold V_X7_truth
  cases t with
  | true => exact ⟨fun c => absurd c (by decide), fun _ => v_of (t := 3) (h := 0) (by decide) k⟩
  | false => exact ⟨fun _ => by have k : R (wd 1 0) := k; rw [wd_nil] at k; exact k, fun c => absurd rfl c⟩
theorem r_truth {g : St} {k : StL} {t : Bool} {R : Int32 → St → StL → Prop} (kk : R (enc (if t then vsym 0 else vnil)) g k) : V_X12_truth (if t then 1 else 0) g k R := by
  unfold V_X12_truth
  cases t with
  | true => exact ⟨fun c => absurd c (by decide), fun _ => r_code (v := vsym 0) (c := 3) (p := 0) (by show 0 < 40; decide) rfl rfl kk⟩
  | false => exact ⟨fun _ => kk, fun c => absurd rfl c⟩
/-- both parts are numbers -/
theorem c_comp {op : Nat} {m1 m2 : Int} {R : Int32 → SG → Prop} (h1 : i16 m1) (h2 : i16 m2) (k : (op < 32 ∧ (vp_in (nI op) 32 ∧ ∀ x_10 : Int32, x_10 = (SMAP.getD (nI op).toNatClampNeg 0) → ((x_10 = (24 : Int32) → V_X7_ranged N (iI m1 + iI m2) G (fun r_12 g_13 => R r_12 g_13)) ∧ (x_10 = (25 : Int32) → V_X7_ranged N (iI m1 - iI m2) G (fun r_14 g_15 => R r_14 g_15)) ∧ (x_10 = (26 : Int32) → V_X7_ranged N (iI m1 * iI m2) G (fun r_16 g_17 => R r_16 g_17)) ∧ (x_10 = (27 : Int32) → ((¬ iI m2 = 0 → (¬ iI m2 = 0 ∧ V_X7_ranged N (iI m1 / iI m2) G (fun r_19 g_20 => R r_19 g_20))) ∧ (iI m2 = 0 → V_X7_failing N (5 : Int32) G (fun r_21 g_22 => R r_21 g_22)))) ∧ (x_10 = (28 : Int32) → ((iI m2 ≤ iI m1 → V_X7_truth (0 : Int32) (fun r_24 => R r_24 G)) ∧ (¬ iI m2 ≤ iI m1 → V_X7_truth (1 : Int32) (fun r_25 => R r_25 G)))) ∧ (x_10 = (29 : Int32) → V_X7_ranged N (iI m1 &&& iI m2) G (fun r_26 g_27 => R r_26 g_27)) ∧ (x_10 = (30 : Int32) → V_X7_ranged N (iI m1 ||| iI m2) G (fun r_28 g_29 => R r_28 g_29)) ∧ (x_10 = (31 : Int32) → V_X7_ranged N (iI m1 ^^^ iI m2) G (fun r_30 g_31 => R r_30 g_31)) ∧ (¬ x_10 = (24 : Int32) → ¬ x_10 = (25 : Int32) → ¬ x_10 = (26 : Int32) → ¬ x_10 = (27 : Int32) → ¬ x_10 = (28 : Int32) → ¬ x_10 = (29 : Int32) → ¬ x_10 = (30 : Int32) → ¬ x_10 = (31 : Int32) → V_X7_shifted N (iI m1) (iI m2) G (fun r_32 g_33 => R r_32 g_33)))))) : V_X7_computed N op (cw φ (vnum m1)) (cw φ (vnum m2)) G R := by
  unfold V_X7_computed
  exact c_tagM h1 ⟨fun c => absurd rfl c, fun _ => c_tagM h2 ⟨fun _ => c_heldM h1 (c_heldM h2 k), fun c => absurd rfl c⟩⟩
/-- one is not -/
theorem c_compX {op : Nat} {v1 v2 : Va} {K : Nat → Nat → Prop} {C : Nat → Prop} {R : Int32 → SG → Prop} (hR : Rng φ hp) (h1 : VV K C hp v1) (h2 : VV K C hp v2) (hne : ¬ (vkd v1 = 2 ∧ vkd v2 = 2)) (k : R 1 (uo G 4 (us (G 4) 2 4))) : V_X7_computed N op (cw φ v1) (cw φ v2) G R := by
  have hk1 := va_kd_lt v1
  have hk2 := va_kd_lt v2
  unfold V_X7_computed V_X7_failing
  refine c_tag h1 hR ⟨fun _ => eqI k, fun c1 => c_tag h2 hR ⟨fun c2 => ?_, fun _ => eqI k⟩⟩
  exact absurd ⟨(nI_eq (b := 2) (by omega) (by decide)).mp c1, (nI_eq (b := 2) (by omega) (by decide)).mp c2⟩ hne
end NM
section NN
variable {x : Cx} {G0 : SG} {N : Nat} {cv cf : Int32} {sv : Nat → Option Va} {rc : Nat → Va × Va} {hp : Nat → Option Ob} {out : List Nat} {inp : List Int} {cn : Nat → Int32}
theorem two_parts {K : List Fr} {op i st e q p D p1 : Nat} {sc : List (List Nat)} {vs : List Va} {v : Va} (hF : OpF x sv rc hp out inp cn K op i st e q p D p1 sc (v :: vs)) (h2 : FEWL.getD op 0 = 2) (h3 : MOSTL.getD op 0 = 2) : ∃ a, vs = [a] := by
  obtain ⟨-, -, -, -, -, -, f1, f2, f3, -⟩ := hF
  rw [h2] at f1
  rw [h3] at f2
  have g1 := (nI_leI (a := 2) (b := (v :: vs).length) (by decide) (by omega)).mp f1
  have g2 := (nI_leI (a := (v :: vs).length) (b := 2) (by omega) (by decide)).mp f2
  match vs, g1, g2 with
  | [a], _, _ => exact ⟨a, rfl⟩
  | [], h, _ => exact absurd h (show ¬ 2 ≤ 1 by decide)
  | a :: b :: r, _, h =>
    have h : r.length + 3 ≤ 2 := h
    exact absurd h (by omega)
theorem one_part {K : List Fr} {op i st e q p D p1 : Nat} {sc : List (List Nat)} {vs : List Va} {v : Va} (hF : OpF x sv rc hp out inp cn K op i st e q p D p1 sc (v :: vs)) (h3 : MOSTL.getD op 0 = 1) : vs = [] := by
  obtain ⟨-, -, -, -, -, -, f1, f2, f3, -⟩ := hF
  rw [h3] at f2
  have g2 := (nI_leI (a := (v :: vs).length) (b := 1) (by omega) (by decide)).mp f2
  have g2 : vs.length + 1 ≤ 1 := g2
  exact List.length_eq_zero_iff.mp (by omega)
theorem s_17 {K : List Fr} {i st e q p D p1 : Nat} {sc : List (List Nat)} {vs : List Va} {v : Va} (hX : XC x G0 N) (hF : OpF x sv rc hp out inp cn K 17 i st e q p D p1 sc (v :: vs)) : Stq x G0 N cv cf ((1, p, v), (17, i, [], st, e, q, vs) :: K, sv, rc, hp, out, inp, cn) := by
  obtain ⟨a, rfl⟩ := two_parts hF rfl rfl
  have hva : VV x.K x.C hp a := hF.2.2.2.1 a (by simp)
  have hvv : VV x.K x.C hp v := hF.2.2.2.1 v (by simp)
  have hu := hF.1.2.2.2.2.2.2.1
  have l2 := hF.2.2.2.2.2.2.2.2.2.2.2.2.2.2.2.2.2.1
  have ll : ([] ++ gv v :: gv a :: (cvl K).map gv).length ≤ 1550 := by
    show ((cvl K).map gv).length + 1 + 1 ≤ 1550
    rw [List.length_map]; omega
  by_cases hk : vkd a = 2 ∧ vkd v = 2
  case neg =>
    refine s_opE (er := 4) hX hF (by decide) (by decide) (fun φ b lo hi G n p2 R hG hn kk => ?_) (fun g k n R hM hV h13 hn kk => ⟨fun c => absurd c (by decide), fun _ _ => ?_, fun c => absurd c (by decide)⟩)
    · refine c_ansM (L0 := []) (m := 2) hG.2.1 ll rfl ?_
      unfold AnsB
      exact ⟨by decide, vp_in_nI (n := 17) (by decide) (by decide), eqI ⟨fun c => absurd c (by decide), fun c => absurd c (by decide), fun c => absurd c (by decide), fun c => absurd c (by decide), fun c => absurd c (by decide), fun c => absurd c (by decide), fun c => absurd c (by decide), fun c => absurd c (by decide), fun c => absurd c (by decide), fun c => absurd c (by decide), fun c => absurd c (by decide), fun c => absurd c (by decide), fun c => absurd c (by decide), fun c => absurd c (by decide), fun _ _ _ _ _ _ _ _ _ _ _ _ _ _ => c_compX (CWd.rng hX hu hG.1) hva hvv hk (kk _)⟩⟩
    · obtain ⟨e1, e2⟩ := vl_2 (l := allv K) hV
      have hk1 := va_kd_lt a
      have hk2 := va_kd_lt v
      rw [e1, e2]
      unfold V_X12_numbers V_X12_fail
      refine ⟨fun _ => r_sort hva.ok ⟨fun _ => eqI (kk _), fun c1 => r_sort hvv.ok ⟨fun c2 => ?_, fun _ => eqI (kk _)⟩⟩, fun c => absurd c (by decide)⟩
      exact absurd ⟨(nI_eq (b := 2) (by omega) (by decide)).mp c1, (nI_eq (b := 2) (by omega) (by decide)).mp c2⟩ hk
  obtain ⟨m1, rfl⟩ := num_of hk.1
  obtain ⟨m2, rfl⟩ := num_of hk.2
  have h1 : i16 m1 := hva
  have h2 : i16 m2 := hvv
  by_cases hr : i16 (iI m1 + iI m2).toInt
  · refine s_opV (w := vnum (iI m1 + iI m2).toInt) hX hF hr (fun φ b lo hi G n p2 R hG hn kk => ?_) (fun g k n R hM hV h13 hn kk => ⟨fun c => absurd c (by decide), fun _ _ => ?_, fun c => absurd c (by decide)⟩)
    · refine c_ansM (L0 := []) (m := 2) hG.2.1 ll rfl ?_
      unfold AnsB
      refine ⟨by decide, vp_in_nI (n := 17) (by decide) (by decide), eqI ⟨fun c => absurd c (by decide), fun c => absurd c (by decide), fun c => absurd c (by decide), fun c => absurd c (by decide), fun c => absurd c (by decide), fun c => absurd c (by decide), fun c => absurd c (by decide), fun c => absurd c (by decide), fun c => absurd c (by decide), fun c => absurd c (by decide), fun c => absurd c (by decide), fun c => absurd c (by decide), fun c => absurd c (by decide), fun c => absurd c (by decide), fun _ _ _ _ _ _ _ _ _ _ _ _ _ _ => ?_⟩⟩
      refine c_comp h1 h2 ⟨by decide, vp_in_nI (n := 17) (by decide) (by decide), eqI ⟨fun _ => ?_, fun c => absurd c (by decide), fun c => absurd c (by decide), fun c => absurd c (by decide), fun c => absurd c (by decide), fun c => absurd c (by decide), fun c => absurd c (by decide), fun c => absurd c (by decide), fun c24 c25 c26 c27 c28 c29 c30 c31 => absurd rfl c24⟩⟩
      exact c_ranged (φ := φ) (fun _ => kk) (fun c => absurd hr c)
    · obtain ⟨e1, e2⟩ := vl_2 (l := allv K) hV
      rw [e1, e2]
      unfold V_X12_numbers
      refine ⟨fun _ => r_sort hva.ok ⟨fun c => absurd rfl c, fun _ => r_sort hvv.ok ⟨fun _ => r_amount h1.1 h1.2 (r_amount h2.1 h2.2 ?_), fun c => absurd rfl c⟩⟩, fun c => absurd c (by decide)⟩
      exact ⟨fun _ => r_ranged (fun _ => kk) (fun c => absurd hr c), fun c => absurd c (by decide), fun c => absurd c (by decide), fun c => absurd c (by decide), fun c => absurd c (by decide), fun c => absurd c (by decide), fun c => absurd c (by decide), fun c => absurd c (by decide), fun c16 c17 c18 c19 c20 c21 c22 c23 => absurd rfl c16⟩
  · refine s_opE (er := 5) hX hF (by decide) (by decide) (fun φ b lo hi G n p2 R hG hn kk => ?_) (fun g k n R hM hV h13 hn kk => ⟨fun c => absurd c (by decide), fun _ _ => ?_, fun c => absurd c (by decide)⟩)
    · refine c_ansM (L0 := []) (m := 2) hG.2.1 ll rfl ?_
      unfold AnsB
      refine ⟨by decide, vp_in_nI (n := 17) (by decide) (by decide), eqI ⟨fun c => absurd c (by decide), fun c => absurd c (by decide), fun c => absurd c (by decide), fun c => absurd c (by decide), fun c => absurd c (by decide), fun c => absurd c (by decide), fun c => absurd c (by decide), fun c => absurd c (by decide), fun c => absurd c (by decide), fun c => absurd c (by decide), fun c => absurd c (by decide), fun c => absurd c (by decide), fun c => absurd c (by decide), fun c => absurd c (by decide), fun _ _ _ _ _ _ _ _ _ _ _ _ _ _ => ?_⟩⟩
      refine c_comp h1 h2 ⟨by decide, vp_in_nI (n := 17) (by decide) (by decide), eqI ⟨fun _ => ?_, fun c => absurd c (by decide), fun c => absurd c (by decide), fun c => absurd c (by decide), fun c => absurd c (by decide), fun c => absurd c (by decide), fun c => absurd c (by decide), fun c => absurd c (by decide), fun c24 c25 c26 c27 c28 c29 c30 c31 => absurd rfl c24⟩⟩
      exact c_ranged (φ := φ) (fun c => absurd c hr) (fun _ => kk _)
    · obtain ⟨e1, e2⟩ := vl_2 (l := allv K) hV
      rw [e1, e2]
      unfold V_X12_numbers
      refine ⟨fun _ => r_sort hva.ok ⟨fun c => absurd rfl c, fun _ => r_sort hvv.ok ⟨fun _ => r_amount h1.1 h1.2 (r_amount h2.1 h2.2 ?_), fun c => absurd rfl c⟩⟩, fun c => absurd c (by decide)⟩
      exact ⟨fun _ => r_ranged (fun c => absurd c hr) (fun _ => kk _), fun c => absurd c (by decide), fun c => absurd c (by decide), fun c => absurd c (by decide), fun c => absurd c (by decide), fun c => absurd c (by decide), fun c => absurd c (by decide), fun c => absurd c (by decide), fun c16 c17 c18 c19 c20 c21 c22 c23 => absurd rfl c16⟩
theorem s_18 {K : List Fr} {i st e q p D p1 : Nat} {sc : List (List Nat)} {vs : List Va} {v : Va} (hX : XC x G0 N) (hF : OpF x sv rc hp out inp cn K 18 i st e q p D p1 sc (v :: vs)) : Stq x G0 N cv cf ((1, p, v), (18, i, [], st, e, q, vs) :: K, sv, rc, hp, out, inp, cn) := by
  obtain ⟨a, rfl⟩ := two_parts hF rfl rfl
  have hva : VV x.K x.C hp a := hF.2.2.2.1 a (by simp)
  have hvv : VV x.K x.C hp v := hF.2.2.2.1 v (by simp)
  have hu := hF.1.2.2.2.2.2.2.1
  have l2 := hF.2.2.2.2.2.2.2.2.2.2.2.2.2.2.2.2.2.1
  have ll : ([] ++ gv v :: gv a :: (cvl K).map gv).length ≤ 1550 := by
    show ((cvl K).map gv).length + 1 + 1 ≤ 1550
    rw [List.length_map]; omega
  by_cases hk : vkd a = 2 ∧ vkd v = 2
  case neg =>
    refine s_opE (er := 4) hX hF (by decide) (by decide) (fun φ b lo hi G n p2 R hG hn kk => ?_) (fun g k n R hM hV h13 hn kk => ⟨fun c => absurd c (by decide), fun _ _ => ?_, fun c => absurd c (by decide)⟩)
    · refine c_ansM (L0 := []) (m := 2) hG.2.1 ll rfl ?_
      unfold AnsB
      exact ⟨by decide, vp_in_nI (n := 18) (by decide) (by decide), eqI ⟨fun c => absurd c (by decide), fun c => absurd c (by decide), fun c => absurd c (by decide), fun c => absurd c (by decide), fun c => absurd c (by decide), fun c => absurd c (by decide), fun c => absurd c (by decide), fun c => absurd c (by decide), fun c => absurd c (by decide), fun c => absurd c (by decide), fun c => absurd c (by decide), fun c => absurd c (by decide), fun c => absurd c (by decide), fun c => absurd c (by decide), fun _ _ _ _ _ _ _ _ _ _ _ _ _ _ => c_compX (CWd.rng hX hu hG.1) hva hvv hk (kk _)⟩⟩
    · obtain ⟨e1, e2⟩ := vl_2 (l := allv K) hV
      have hk1 := va_kd_lt a
      have hk2 := va_kd_lt v
      rw [e1, e2]
      unfold V_X12_numbers V_X12_fail
      refine ⟨fun _ => r_sort hva.ok ⟨fun _ => eqI (kk _), fun c1 => r_sort hvv.ok ⟨fun c2 => ?_, fun _ => eqI (kk _)⟩⟩, fun c => absurd c (by decide)⟩
      exact absurd ⟨(nI_eq (b := 2) (by omega) (by decide)).mp c1, (nI_eq (b := 2) (by omega) (by decide)).mp c2⟩ hk
  obtain ⟨m1, rfl⟩ := num_of hk.1
  obtain ⟨m2, rfl⟩ := num_of hk.2
  have h1 : i16 m1 := hva
  have h2 : i16 m2 := hvv
  by_cases hr : i16 (iI m1 - iI m2).toInt
  · refine s_opV (w := vnum (iI m1 - iI m2).toInt) hX hF hr (fun φ b lo hi G n p2 R hG hn kk => ?_) (fun g k n R hM hV h13 hn kk => ⟨fun c => absurd c (by decide), fun _ _ => ?_, fun c => absurd c (by decide)⟩)
    · refine c_ansM (L0 := []) (m := 2) hG.2.1 ll rfl ?_
      unfold AnsB
      refine ⟨by decide, vp_in_nI (n := 18) (by decide) (by decide), eqI ⟨fun c => absurd c (by decide), fun c => absurd c (by decide), fun c => absurd c (by decide), fun c => absurd c (by decide), fun c => absurd c (by decide), fun c => absurd c (by decide), fun c => absurd c (by decide), fun c => absurd c (by decide), fun c => absurd c (by decide), fun c => absurd c (by decide), fun c => absurd c (by decide), fun c => absurd c (by decide), fun c => absurd c (by decide), fun c => absurd c (by decide), fun _ _ _ _ _ _ _ _ _ _ _ _ _ _ => ?_⟩⟩
      refine c_comp h1 h2 ⟨by decide, vp_in_nI (n := 18) (by decide) (by decide), eqI ⟨fun c => absurd c (by decide), fun _ => ?_, fun c => absurd c (by decide), fun c => absurd c (by decide), fun c => absurd c (by decide), fun c => absurd c (by decide), fun c => absurd c (by decide), fun c => absurd c (by decide), fun c24 c25 c26 c27 c28 c29 c30 c31 => absurd rfl c25⟩⟩
      exact c_ranged (φ := φ) (fun _ => kk) (fun c => absurd hr c)
    · obtain ⟨e1, e2⟩ := vl_2 (l := allv K) hV
      rw [e1, e2]
      unfold V_X12_numbers
      refine ⟨fun _ => r_sort hva.ok ⟨fun c => absurd rfl c, fun _ => r_sort hvv.ok ⟨fun _ => r_amount h1.1 h1.2 (r_amount h2.1 h2.2 ?_), fun c => absurd rfl c⟩⟩, fun c => absurd c (by decide)⟩
      exact ⟨fun c => absurd c (by decide), fun _ => r_ranged (fun _ => kk) (fun c => absurd hr c), fun c => absurd c (by decide), fun c => absurd c (by decide), fun c => absurd c (by decide), fun c => absurd c (by decide), fun c => absurd c (by decide), fun c => absurd c (by decide), fun c16 c17 c18 c19 c20 c21 c22 c23 => absurd rfl c17⟩
  · refine s_opE (er := 5) hX hF (by decide) (by decide) (fun φ b lo hi G n p2 R hG hn kk => ?_) (fun g k n R hM hV h13 hn kk => ⟨fun c => absurd c (by decide), fun _ _ => ?_, fun c => absurd c (by decide)⟩)
    · refine c_ansM (L0 := []) (m := 2) hG.2.1 ll rfl ?_
      unfold AnsB
      refine ⟨by decide, vp_in_nI (n := 18) (by decide) (by decide), eqI ⟨fun c => absurd c (by decide), fun c => absurd c (by decide), fun c => absurd c (by decide), fun c => absurd c (by decide), fun c => absurd c (by decide), fun c => absurd c (by decide), fun c => absurd c (by decide), fun c => absurd c (by decide), fun c => absurd c (by decide), fun c => absurd c (by decide), fun c => absurd c (by decide), fun c => absurd c (by decide), fun c => absurd c (by decide), fun c => absurd c (by decide), fun _ _ _ _ _ _ _ _ _ _ _ _ _ _ => ?_⟩⟩
      refine c_comp h1 h2 ⟨by decide, vp_in_nI (n := 18) (by decide) (by decide), eqI ⟨fun c => absurd c (by decide), fun _ => ?_, fun c => absurd c (by decide), fun c => absurd c (by decide), fun c => absurd c (by decide), fun c => absurd c (by decide), fun c => absurd c (by decide), fun c => absurd c (by decide), fun c24 c25 c26 c27 c28 c29 c30 c31 => absurd rfl c25⟩⟩
      exact c_ranged (φ := φ) (fun c => absurd c hr) (fun _ => kk _)
    · obtain ⟨e1, e2⟩ := vl_2 (l := allv K) hV
      rw [e1, e2]
      unfold V_X12_numbers
      refine ⟨fun _ => r_sort hva.ok ⟨fun c => absurd rfl c, fun _ => r_sort hvv.ok ⟨fun _ => r_amount h1.1 h1.2 (r_amount h2.1 h2.2 ?_), fun c => absurd rfl c⟩⟩, fun c => absurd c (by decide)⟩
      exact ⟨fun c => absurd c (by decide), fun _ => r_ranged (fun c => absurd c hr) (fun _ => kk _), fun c => absurd c (by decide), fun c => absurd c (by decide), fun c => absurd c (by decide), fun c => absurd c (by decide), fun c => absurd c (by decide), fun c => absurd c (by decide), fun c16 c17 c18 c19 c20 c21 c22 c23 => absurd rfl c17⟩
theorem s_19 {K : List Fr} {i st e q p D p1 : Nat} {sc : List (List Nat)} {vs : List Va} {v : Va} (hX : XC x G0 N) (hF : OpF x sv rc hp out inp cn K 19 i st e q p D p1 sc (v :: vs)) : Stq x G0 N cv cf ((1, p, v), (19, i, [], st, e, q, vs) :: K, sv, rc, hp, out, inp, cn) := by
  obtain ⟨a, rfl⟩ := two_parts hF rfl rfl
  have hva : VV x.K x.C hp a := hF.2.2.2.1 a (by simp)
  have hvv : VV x.K x.C hp v := hF.2.2.2.1 v (by simp)
  have hu := hF.1.2.2.2.2.2.2.1
  have l2 := hF.2.2.2.2.2.2.2.2.2.2.2.2.2.2.2.2.2.1
  have ll : ([] ++ gv v :: gv a :: (cvl K).map gv).length ≤ 1550 := by
    show ((cvl K).map gv).length + 1 + 1 ≤ 1550
    rw [List.length_map]; omega
  by_cases hk : vkd a = 2 ∧ vkd v = 2
  case neg =>
    refine s_opE (er := 4) hX hF (by decide) (by decide) (fun φ b lo hi G n p2 R hG hn kk => ?_) (fun g k n R hM hV h13 hn kk => ⟨fun c => absurd c (by decide), fun _ _ => ?_, fun c => absurd c (by decide)⟩)
    · refine c_ansM (L0 := []) (m := 2) hG.2.1 ll rfl ?_
      unfold AnsB
      exact ⟨by decide, vp_in_nI (n := 19) (by decide) (by decide), eqI ⟨fun c => absurd c (by decide), fun c => absurd c (by decide), fun c => absurd c (by decide), fun c => absurd c (by decide), fun c => absurd c (by decide), fun c => absurd c (by decide), fun c => absurd c (by decide), fun c => absurd c (by decide), fun c => absurd c (by decide), fun c => absurd c (by decide), fun c => absurd c (by decide), fun c => absurd c (by decide), fun c => absurd c (by decide), fun c => absurd c (by decide), fun _ _ _ _ _ _ _ _ _ _ _ _ _ _ => c_compX (CWd.rng hX hu hG.1) hva hvv hk (kk _)⟩⟩
    · obtain ⟨e1, e2⟩ := vl_2 (l := allv K) hV
      have hk1 := va_kd_lt a
      have hk2 := va_kd_lt v
      rw [e1, e2]
      unfold V_X12_numbers V_X12_fail
      refine ⟨fun _ => r_sort hva.ok ⟨fun _ => eqI (kk _), fun c1 => r_sort hvv.ok ⟨fun c2 => ?_, fun _ => eqI (kk _)⟩⟩, fun c => absurd c (by decide)⟩
      exact absurd ⟨(nI_eq (b := 2) (by omega) (by decide)).mp c1, (nI_eq (b := 2) (by omega) (by decide)).mp c2⟩ hk
  obtain ⟨m1, rfl⟩ := num_of hk.1
  obtain ⟨m2, rfl⟩ := num_of hk.2
  have h1 : i16 m1 := hva
  have h2 : i16 m2 := hvv
  by_cases hr : i16 (iI m1 * iI m2).toInt
  · refine s_opV (w := vnum (iI m1 * iI m2).toInt) hX hF hr (fun φ b lo hi G n p2 R hG hn kk => ?_) (fun g k n R hM hV h13 hn kk => ⟨fun c => absurd c (by decide), fun _ _ => ?_, fun c => absurd c (by decide)⟩)
    · refine c_ansM (L0 := []) (m := 2) hG.2.1 ll rfl ?_
      unfold AnsB
      refine ⟨by decide, vp_in_nI (n := 19) (by decide) (by decide), eqI ⟨fun c => absurd c (by decide), fun c => absurd c (by decide), fun c => absurd c (by decide), fun c => absurd c (by decide), fun c => absurd c (by decide), fun c => absurd c (by decide), fun c => absurd c (by decide), fun c => absurd c (by decide), fun c => absurd c (by decide), fun c => absurd c (by decide), fun c => absurd c (by decide), fun c => absurd c (by decide), fun c => absurd c (by decide), fun c => absurd c (by decide), fun _ _ _ _ _ _ _ _ _ _ _ _ _ _ => ?_⟩⟩
      refine c_comp h1 h2 ⟨by decide, vp_in_nI (n := 19) (by decide) (by decide), eqI ⟨fun c => absurd c (by decide), fun c => absurd c (by decide), fun _ => ?_, fun c => absurd c (by decide), fun c => absurd c (by decide), fun c => absurd c (by decide), fun c => absurd c (by decide), fun c => absurd c (by decide), fun c24 c25 c26 c27 c28 c29 c30 c31 => absurd rfl c26⟩⟩
      exact c_ranged (φ := φ) (fun _ => kk) (fun c => absurd hr c)
    · obtain ⟨e1, e2⟩ := vl_2 (l := allv K) hV
      rw [e1, e2]
      unfold V_X12_numbers
      refine ⟨fun _ => r_sort hva.ok ⟨fun c => absurd rfl c, fun _ => r_sort hvv.ok ⟨fun _ => r_amount h1.1 h1.2 (r_amount h2.1 h2.2 ?_), fun c => absurd rfl c⟩⟩, fun c => absurd c (by decide)⟩
      exact ⟨fun c => absurd c (by decide), fun c => absurd c (by decide), fun _ => r_ranged (fun _ => kk) (fun c => absurd hr c), fun c => absurd c (by decide), fun c => absurd c (by decide), fun c => absurd c (by decide), fun c => absurd c (by decide), fun c => absurd c (by decide), fun c16 c17 c18 c19 c20 c21 c22 c23 => absurd rfl c18⟩
  · refine s_opE (er := 5) hX hF (by decide) (by decide) (fun φ b lo hi G n p2 R hG hn kk => ?_) (fun g k n R hM hV h13 hn kk => ⟨fun c => absurd c (by decide), fun _ _ => ?_, fun c => absurd c (by decide)⟩)
    · refine c_ansM (L0 := []) (m := 2) hG.2.1 ll rfl ?_
      unfold AnsB
      refine ⟨by decide, vp_in_nI (n := 19) (by decide) (by decide), eqI ⟨fun c => absurd c (by decide), fun c => absurd c (by decide), fun c => absurd c (by decide), fun c => absurd c (by decide), fun c => absurd c (by decide), fun c => absurd c (by decide), fun c => absurd c (by decide), fun c => absurd c (by decide), fun c => absurd c (by decide), fun c => absurd c (by decide), fun c => absurd c (by decide), fun c => absurd c (by decide), fun c => absurd c (by decide), fun c => absurd c (by decide), fun _ _ _ _ _ _ _ _ _ _ _ _ _ _ => ?_⟩⟩
      refine c_comp h1 h2 ⟨by decide, vp_in_nI (n := 19) (by decide) (by decide), eqI ⟨fun c => absurd c (by decide), fun c => absurd c (by decide), fun _ => ?_, fun c => absurd c (by decide), fun c => absurd c (by decide), fun c => absurd c (by decide), fun c => absurd c (by decide), fun c => absurd c (by decide), fun c24 c25 c26 c27 c28 c29 c30 c31 => absurd rfl c26⟩⟩
      exact c_ranged (φ := φ) (fun c => absurd c hr) (fun _ => kk _)
    · obtain ⟨e1, e2⟩ := vl_2 (l := allv K) hV
      rw [e1, e2]
      unfold V_X12_numbers
      refine ⟨fun _ => r_sort hva.ok ⟨fun c => absurd rfl c, fun _ => r_sort hvv.ok ⟨fun _ => r_amount h1.1 h1.2 (r_amount h2.1 h2.2 ?_), fun c => absurd rfl c⟩⟩, fun c => absurd c (by decide)⟩
      exact ⟨fun c => absurd c (by decide), fun c => absurd c (by decide), fun _ => r_ranged (fun c => absurd c hr) (fun _ => kk _), fun c => absurd c (by decide), fun c => absurd c (by decide), fun c => absurd c (by decide), fun c => absurd c (by decide), fun c => absurd c (by decide), fun c16 c17 c18 c19 c20 c21 c22 c23 => absurd rfl c18⟩
theorem s_22 {K : List Fr} {i st e q p D p1 : Nat} {sc : List (List Nat)} {vs : List Va} {v : Va} (hX : XC x G0 N) (hF : OpF x sv rc hp out inp cn K 22 i st e q p D p1 sc (v :: vs)) : Stq x G0 N cv cf ((1, p, v), (22, i, [], st, e, q, vs) :: K, sv, rc, hp, out, inp, cn) := by
  obtain ⟨a, rfl⟩ := two_parts hF rfl rfl
  have hva : VV x.K x.C hp a := hF.2.2.2.1 a (by simp)
  have hvv : VV x.K x.C hp v := hF.2.2.2.1 v (by simp)
  have hu := hF.1.2.2.2.2.2.2.1
  have l2 := hF.2.2.2.2.2.2.2.2.2.2.2.2.2.2.2.2.2.1
  have ll : ([] ++ gv v :: gv a :: (cvl K).map gv).length ≤ 1550 := by
    show ((cvl K).map gv).length + 1 + 1 ≤ 1550
    rw [List.length_map]; omega
  by_cases hk : vkd a = 2 ∧ vkd v = 2
  case neg =>
    refine s_opE (er := 4) hX hF (by decide) (by decide) (fun φ b lo hi G n p2 R hG hn kk => ?_) (fun g k n R hM hV h13 hn kk => ⟨fun c => absurd c (by decide), fun _ _ => ?_, fun c => absurd c (by decide)⟩)
    · refine c_ansM (L0 := []) (m := 2) hG.2.1 ll rfl ?_
      unfold AnsB
      exact ⟨by decide, vp_in_nI (n := 22) (by decide) (by decide), eqI ⟨fun c => absurd c (by decide), fun c => absurd c (by decide), fun c => absurd c (by decide), fun c => absurd c (by decide), fun c => absurd c (by decide), fun c => absurd c (by decide), fun c => absurd c (by decide), fun c => absurd c (by decide), fun c => absurd c (by decide), fun c => absurd c (by decide), fun c => absurd c (by decide), fun c => absurd c (by decide), fun c => absurd c (by decide), fun c => absurd c (by decide), fun _ _ _ _ _ _ _ _ _ _ _ _ _ _ => c_compX (CWd.rng hX hu hG.1) hva hvv hk (kk _)⟩⟩
    · obtain ⟨e1, e2⟩ := vl_2 (l := allv K) hV
      have hk1 := va_kd_lt a
      have hk2 := va_kd_lt v
      rw [e1, e2]
      unfold V_X12_numbers V_X12_fail
      refine ⟨fun _ => r_sort hva.ok ⟨fun _ => eqI (kk _), fun c1 => r_sort hvv.ok ⟨fun c2 => ?_, fun _ => eqI (kk _)⟩⟩, fun c => absurd c (by decide)⟩
      exact absurd ⟨(nI_eq (b := 2) (by omega) (by decide)).mp c1, (nI_eq (b := 2) (by omega) (by decide)).mp c2⟩ hk
  obtain ⟨m1, rfl⟩ := num_of hk.1
  obtain ⟨m2, rfl⟩ := num_of hk.2
  have h1 : i16 m1 := hva
  have h2 : i16 m2 := hvv
  have hr : i16 (iI m1 &&& iI m2).toInt := bits_and _ _ (by rw [iI_toInt (by have := h1.1; omega) (by have := h1.2; omega)]; exact h1) (by rw [iI_toInt (by have := h2.1; omega) (by have := h2.2; omega)]; exact h2)
  refine s_opV (w := vnum (iI m1 &&& iI m2).toInt) hX hF hr (fun φ b lo hi G n p2 R hG hn kk => ?_) (fun g k n R hM hV h13 hn kk => ⟨fun c => absurd c (by decide), fun _ _ => ?_, fun c => absurd c (by decide)⟩)
  · refine c_ansM (L0 := []) (m := 2) hG.2.1 ll rfl ?_
    unfold AnsB
    refine ⟨by decide, vp_in_nI (n := 22) (by decide) (by decide), eqI ⟨fun c => absurd c (by decide), fun c => absurd c (by decide), fun c => absurd c (by decide), fun c => absurd c (by decide), fun c => absurd c (by decide), fun c => absurd c (by decide), fun c => absurd c (by decide), fun c => absurd c (by decide), fun c => absurd c (by decide), fun c => absurd c (by decide), fun c => absurd c (by decide), fun c => absurd c (by decide), fun c => absurd c (by decide), fun c => absurd c (by decide), fun _ _ _ _ _ _ _ _ _ _ _ _ _ _ => ?_⟩⟩
    refine c_comp h1 h2 ⟨by decide, vp_in_nI (n := 22) (by decide) (by decide), eqI ⟨fun c => absurd c (by decide), fun c => absurd c (by decide), fun c => absurd c (by decide), fun c => absurd c (by decide), fun c => absurd c (by decide), fun _ => ?_, fun c => absurd c (by decide), fun c => absurd c (by decide), fun c24 c25 c26 c27 c28 c29 c30 c31 => absurd rfl c29⟩⟩
    exact c_ranged (φ := φ) (fun _ => kk) (fun c => absurd hr c)
  · obtain ⟨e1, e2⟩ := vl_2 (l := allv K) hV
    rw [e1, e2]
    unfold V_X12_numbers
    refine ⟨fun _ => r_sort hva.ok ⟨fun c => absurd rfl c, fun _ => r_sort hvv.ok ⟨fun _ => r_amount h1.1 h1.2 (r_amount h2.1 h2.2 ?_), fun c => absurd rfl c⟩⟩, fun c => absurd c (by decide)⟩
    exact ⟨fun c => absurd c (by decide), fun c => absurd c (by decide), fun c => absurd c (by decide), fun c => absurd c (by decide), fun c => absurd c (by decide), fun _ => r_num hr kk, fun c => absurd c (by decide), fun c => absurd c (by decide), fun c16 c17 c18 c19 c20 c21 c22 c23 => absurd rfl c21⟩
theorem s_23 {K : List Fr} {i st e q p D p1 : Nat} {sc : List (List Nat)} {vs : List Va} {v : Va} (hX : XC x G0 N) (hF : OpF x sv rc hp out inp cn K 23 i st e q p D p1 sc (v :: vs)) : Stq x G0 N cv cf ((1, p, v), (23, i, [], st, e, q, vs) :: K, sv, rc, hp, out, inp, cn) := by
  obtain ⟨a, rfl⟩ := two_parts hF rfl rfl
  have hva : VV x.K x.C hp a := hF.2.2.2.1 a (by simp)
  have hvv : VV x.K x.C hp v := hF.2.2.2.1 v (by simp)
  have hu := hF.1.2.2.2.2.2.2.1
  have l2 := hF.2.2.2.2.2.2.2.2.2.2.2.2.2.2.2.2.2.1
  have ll : ([] ++ gv v :: gv a :: (cvl K).map gv).length ≤ 1550 := by
    show ((cvl K).map gv).length + 1 + 1 ≤ 1550
    rw [List.length_map]; omega
  by_cases hk : vkd a = 2 ∧ vkd v = 2
  case neg =>
    refine s_opE (er := 4) hX hF (by decide) (by decide) (fun φ b lo hi G n p2 R hG hn kk => ?_) (fun g k n R hM hV h13 hn kk => ⟨fun c => absurd c (by decide), fun _ _ => ?_, fun c => absurd c (by decide)⟩)
    · refine c_ansM (L0 := []) (m := 2) hG.2.1 ll rfl ?_
      unfold AnsB
      exact ⟨by decide, vp_in_nI (n := 23) (by decide) (by decide), eqI ⟨fun c => absurd c (by decide), fun c => absurd c (by decide), fun c => absurd c (by decide), fun c => absurd c (by decide), fun c => absurd c (by decide), fun c => absurd c (by decide), fun c => absurd c (by decide), fun c => absurd c (by decide), fun c => absurd c (by decide), fun c => absurd c (by decide), fun c => absurd c (by decide), fun c => absurd c (by decide), fun c => absurd c (by decide), fun c => absurd c (by decide), fun _ _ _ _ _ _ _ _ _ _ _ _ _ _ => c_compX (CWd.rng hX hu hG.1) hva hvv hk (kk _)⟩⟩
    · obtain ⟨e1, e2⟩ := vl_2 (l := allv K) hV
      have hk1 := va_kd_lt a
      have hk2 := va_kd_lt v
      rw [e1, e2]
      unfold V_X12_numbers V_X12_fail
      refine ⟨fun _ => r_sort hva.ok ⟨fun _ => eqI (kk _), fun c1 => r_sort hvv.ok ⟨fun c2 => ?_, fun _ => eqI (kk _)⟩⟩, fun c => absurd c (by decide)⟩
      exact absurd ⟨(nI_eq (b := 2) (by omega) (by decide)).mp c1, (nI_eq (b := 2) (by omega) (by decide)).mp c2⟩ hk
  obtain ⟨m1, rfl⟩ := num_of hk.1
  obtain ⟨m2, rfl⟩ := num_of hk.2
  have h1 : i16 m1 := hva
  have h2 : i16 m2 := hvv
  have hr : i16 (iI m1 ||| iI m2).toInt := bits_or _ _ (by rw [iI_toInt (by have := h1.1; omega) (by have := h1.2; omega)]; exact h1) (by rw [iI_toInt (by have := h2.1; omega) (by have := h2.2; omega)]; exact h2)
  refine s_opV (w := vnum (iI m1 ||| iI m2).toInt) hX hF hr (fun φ b lo hi G n p2 R hG hn kk => ?_) (fun g k n R hM hV h13 hn kk => ⟨fun c => absurd c (by decide), fun _ _ => ?_, fun c => absurd c (by decide)⟩)
  · refine c_ansM (L0 := []) (m := 2) hG.2.1 ll rfl ?_
    unfold AnsB
    refine ⟨by decide, vp_in_nI (n := 23) (by decide) (by decide), eqI ⟨fun c => absurd c (by decide), fun c => absurd c (by decide), fun c => absurd c (by decide), fun c => absurd c (by decide), fun c => absurd c (by decide), fun c => absurd c (by decide), fun c => absurd c (by decide), fun c => absurd c (by decide), fun c => absurd c (by decide), fun c => absurd c (by decide), fun c => absurd c (by decide), fun c => absurd c (by decide), fun c => absurd c (by decide), fun c => absurd c (by decide), fun _ _ _ _ _ _ _ _ _ _ _ _ _ _ => ?_⟩⟩
    refine c_comp h1 h2 ⟨by decide, vp_in_nI (n := 23) (by decide) (by decide), eqI ⟨fun c => absurd c (by decide), fun c => absurd c (by decide), fun c => absurd c (by decide), fun c => absurd c (by decide), fun c => absurd c (by decide), fun c => absurd c (by decide), fun _ => ?_, fun c => absurd c (by decide), fun c24 c25 c26 c27 c28 c29 c30 c31 => absurd rfl c30⟩⟩
    exact c_ranged (φ := φ) (fun _ => kk) (fun c => absurd hr c)
  · obtain ⟨e1, e2⟩ := vl_2 (l := allv K) hV
    rw [e1, e2]
    unfold V_X12_numbers
    refine ⟨fun _ => r_sort hva.ok ⟨fun c => absurd rfl c, fun _ => r_sort hvv.ok ⟨fun _ => r_amount h1.1 h1.2 (r_amount h2.1 h2.2 ?_), fun c => absurd rfl c⟩⟩, fun c => absurd c (by decide)⟩
    exact ⟨fun c => absurd c (by decide), fun c => absurd c (by decide), fun c => absurd c (by decide), fun c => absurd c (by decide), fun c => absurd c (by decide), fun c => absurd c (by decide), fun _ => r_num hr kk, fun c => absurd c (by decide), fun c16 c17 c18 c19 c20 c21 c22 c23 => absurd rfl c22⟩
theorem s_24 {K : List Fr} {i st e q p D p1 : Nat} {sc : List (List Nat)} {vs : List Va} {v : Va} (hX : XC x G0 N) (hF : OpF x sv rc hp out inp cn K 24 i st e q p D p1 sc (v :: vs)) : Stq x G0 N cv cf ((1, p, v), (24, i, [], st, e, q, vs) :: K, sv, rc, hp, out, inp, cn) := by
  obtain ⟨a, rfl⟩ := two_parts hF rfl rfl
  have hva : VV x.K x.C hp a := hF.2.2.2.1 a (by simp)
  have hvv : VV x.K x.C hp v := hF.2.2.2.1 v (by simp)
  have hu := hF.1.2.2.2.2.2.2.1
  have l2 := hF.2.2.2.2.2.2.2.2.2.2.2.2.2.2.2.2.2.1
  have ll : ([] ++ gv v :: gv a :: (cvl K).map gv).length ≤ 1550 := by
    show ((cvl K).map gv).length + 1 + 1 ≤ 1550
    rw [List.length_map]; omega
  by_cases hk : vkd a = 2 ∧ vkd v = 2
  case neg =>
    refine s_opE (er := 4) hX hF (by decide) (by decide) (fun φ b lo hi G n p2 R hG hn kk => ?_) (fun g k n R hM hV h13 hn kk => ⟨fun c => absurd c (by decide), fun _ _ => ?_, fun c => absurd c (by decide)⟩)
    · refine c_ansM (L0 := []) (m := 2) hG.2.1 ll rfl ?_
      unfold AnsB
      exact ⟨by decide, vp_in_nI (n := 24) (by decide) (by decide), eqI ⟨fun c => absurd c (by decide), fun c => absurd c (by decide), fun c => absurd c (by decide), fun c => absurd c (by decide), fun c => absurd c (by decide), fun c => absurd c (by decide), fun c => absurd c (by decide), fun c => absurd c (by decide), fun c => absurd c (by decide), fun c => absurd c (by decide), fun c => absurd c (by decide), fun c => absurd c (by decide), fun c => absurd c (by decide), fun c => absurd c (by decide), fun _ _ _ _ _ _ _ _ _ _ _ _ _ _ => c_compX (CWd.rng hX hu hG.1) hva hvv hk (kk _)⟩⟩
    · obtain ⟨e1, e2⟩ := vl_2 (l := allv K) hV
      have hk1 := va_kd_lt a
      have hk2 := va_kd_lt v
      rw [e1, e2]
      unfold V_X12_numbers V_X12_fail
      refine ⟨fun _ => r_sort hva.ok ⟨fun _ => eqI (kk _), fun c1 => r_sort hvv.ok ⟨fun c2 => ?_, fun _ => eqI (kk _)⟩⟩, fun c => absurd c (by decide)⟩
      exact absurd ⟨(nI_eq (b := 2) (by omega) (by decide)).mp c1, (nI_eq (b := 2) (by omega) (by decide)).mp c2⟩ hk
  obtain ⟨m1, rfl⟩ := num_of hk.1
  obtain ⟨m2, rfl⟩ := num_of hk.2
  have h1 : i16 m1 := hva
  have h2 : i16 m2 := hvv
  have hr : i16 (iI m1 ^^^ iI m2).toInt := bits_xor _ _ (by rw [iI_toInt (by have := h1.1; omega) (by have := h1.2; omega)]; exact h1) (by rw [iI_toInt (by have := h2.1; omega) (by have := h2.2; omega)]; exact h2)
  refine s_opV (w := vnum (iI m1 ^^^ iI m2).toInt) hX hF hr (fun φ b lo hi G n p2 R hG hn kk => ?_) (fun g k n R hM hV h13 hn kk => ⟨fun c => absurd c (by decide), fun _ _ => ?_, fun c => absurd c (by decide)⟩)
  · refine c_ansM (L0 := []) (m := 2) hG.2.1 ll rfl ?_
    unfold AnsB
    refine ⟨by decide, vp_in_nI (n := 24) (by decide) (by decide), eqI ⟨fun c => absurd c (by decide), fun c => absurd c (by decide), fun c => absurd c (by decide), fun c => absurd c (by decide), fun c => absurd c (by decide), fun c => absurd c (by decide), fun c => absurd c (by decide), fun c => absurd c (by decide), fun c => absurd c (by decide), fun c => absurd c (by decide), fun c => absurd c (by decide), fun c => absurd c (by decide), fun c => absurd c (by decide), fun c => absurd c (by decide), fun _ _ _ _ _ _ _ _ _ _ _ _ _ _ => ?_⟩⟩
    refine c_comp h1 h2 ⟨by decide, vp_in_nI (n := 24) (by decide) (by decide), eqI ⟨fun c => absurd c (by decide), fun c => absurd c (by decide), fun c => absurd c (by decide), fun c => absurd c (by decide), fun c => absurd c (by decide), fun c => absurd c (by decide), fun c => absurd c (by decide), fun _ => ?_, fun c24 c25 c26 c27 c28 c29 c30 c31 => absurd rfl c31⟩⟩
    exact c_ranged (φ := φ) (fun _ => kk) (fun c => absurd hr c)
  · obtain ⟨e1, e2⟩ := vl_2 (l := allv K) hV
    rw [e1, e2]
    unfold V_X12_numbers
    refine ⟨fun _ => r_sort hva.ok ⟨fun c => absurd rfl c, fun _ => r_sort hvv.ok ⟨fun _ => r_amount h1.1 h1.2 (r_amount h2.1 h2.2 ?_), fun c => absurd rfl c⟩⟩, fun c => absurd c (by decide)⟩
    exact ⟨fun c => absurd c (by decide), fun c => absurd c (by decide), fun c => absurd c (by decide), fun c => absurd c (by decide), fun c => absurd c (by decide), fun c => absurd c (by decide), fun c => absurd c (by decide), fun _ => r_num hr kk, fun c16 c17 c18 c19 c20 c21 c22 c23 => absurd rfl c23⟩
theorem s_20 {K : List Fr} {i st e q p D p1 : Nat} {sc : List (List Nat)} {vs : List Va} {v : Va} (hX : XC x G0 N) (hF : OpF x sv rc hp out inp cn K 20 i st e q p D p1 sc (v :: vs)) : Stq x G0 N cv cf ((1, p, v), (20, i, [], st, e, q, vs) :: K, sv, rc, hp, out, inp, cn) := by
  obtain ⟨a, rfl⟩ := two_parts hF rfl rfl
  have hva : VV x.K x.C hp a := hF.2.2.2.1 a (by simp)
  have hvv : VV x.K x.C hp v := hF.2.2.2.1 v (by simp)
  have hu := hF.1.2.2.2.2.2.2.1
  have l2 := hF.2.2.2.2.2.2.2.2.2.2.2.2.2.2.2.2.2.1
  have ll : ([] ++ gv v :: gv a :: (cvl K).map gv).length ≤ 1550 := by
    show ((cvl K).map gv).length + 1 + 1 ≤ 1550
    rw [List.length_map]; omega
  by_cases hk : vkd a = 2 ∧ vkd v = 2
  case neg =>
    refine s_opE (er := 4) hX hF (by decide) (by decide) (fun φ b lo hi G n p2 R hG hn kk => ?_) (fun g k n R hM hV h13 hn kk => ⟨fun c => absurd c (by decide), fun _ _ => ?_, fun c => absurd c (by decide)⟩)
    · refine c_ansM (L0 := []) (m := 2) hG.2.1 ll rfl ?_
      unfold AnsB
      exact ⟨by decide, vp_in_nI (n := 20) (by decide) (by decide), eqI ⟨fun c => absurd c (by decide), fun c => absurd c (by decide), fun c => absurd c (by decide), fun c => absurd c (by decide), fun c => absurd c (by decide), fun c => absurd c (by decide), fun c => absurd c (by decide), fun c => absurd c (by decide), fun c => absurd c (by decide), fun c => absurd c (by decide), fun c => absurd c (by decide), fun c => absurd c (by decide), fun c => absurd c (by decide), fun c => absurd c (by decide), fun _ _ _ _ _ _ _ _ _ _ _ _ _ _ => c_compX (CWd.rng hX hu hG.1) hva hvv hk (kk _)⟩⟩
    · obtain ⟨e1, e2⟩ := vl_2 (l := allv K) hV
      have hk1 := va_kd_lt a
      have hk2 := va_kd_lt v
      rw [e1, e2]
      unfold V_X12_numbers V_X12_fail
      refine ⟨fun _ => r_sort hva.ok ⟨fun _ => eqI (kk _), fun c1 => r_sort hvv.ok ⟨fun c2 => ?_, fun _ => eqI (kk _)⟩⟩, fun c => absurd c (by decide)⟩
      exact absurd ⟨(nI_eq (b := 2) (by omega) (by decide)).mp c1, (nI_eq (b := 2) (by omega) (by decide)).mp c2⟩ hk
  obtain ⟨m1, rfl⟩ := num_of hk.1
  obtain ⟨m2, rfl⟩ := num_of hk.2
  have h1 : i16 m1 := hva
  have h2 : i16 m2 := hvv
  by_cases h0 : iI m2 = 0
  · refine s_opE (er := 5) hX hF (by decide) (by decide) (fun φ b lo hi G n p2 R hG hn kk => ?_) (fun g k n R hM hV h13 hn kk => ⟨fun c => absurd c (by decide), fun _ _ => ?_, fun c => absurd c (by decide)⟩)
    · refine c_ansM (L0 := []) (m := 2) hG.2.1 ll rfl ?_
      unfold AnsB
      refine ⟨by decide, vp_in_nI (n := 20) (by decide) (by decide), eqI ⟨fun c => absurd c (by decide), fun c => absurd c (by decide), fun c => absurd c (by decide), fun c => absurd c (by decide), fun c => absurd c (by decide), fun c => absurd c (by decide), fun c => absurd c (by decide), fun c => absurd c (by decide), fun c => absurd c (by decide), fun c => absurd c (by decide), fun c => absurd c (by decide), fun c => absurd c (by decide), fun c => absurd c (by decide), fun c => absurd c (by decide), fun _ _ _ _ _ _ _ _ _ _ _ _ _ _ => ?_⟩⟩
      refine c_comp h1 h2 ⟨by decide, vp_in_nI (n := 20) (by decide) (by decide), eqI ⟨fun c => absurd c (by decide), fun c => absurd c (by decide), fun c => absurd c (by decide), fun _ => ?_, fun c => absurd c (by decide), fun c => absurd c (by decide), fun c => absurd c (by decide), fun c => absurd c (by decide), fun c24 c25 c26 c27 c28 c29 c30 c31 => absurd rfl c27⟩⟩
      exact ⟨fun c => absurd h0 c, fun _ => eqI (kk _)⟩
    · obtain ⟨e1, e2⟩ := vl_2 (l := allv K) hV
      rw [e1, e2]
      unfold V_X12_numbers
      refine ⟨fun _ => r_sort hva.ok ⟨fun c => absurd rfl c, fun _ => r_sort hvv.ok ⟨fun _ => r_amount h1.1 h1.2 (r_amount h2.1 h2.2 ?_), fun c => absurd rfl c⟩⟩, fun c => absurd c (by decide)⟩
      exact ⟨fun c => absurd c (by decide), fun c => absurd c (by decide), fun c => absurd c (by decide), fun _ => ⟨fun c => absurd h0 c, fun _ => eqI (kk _)⟩, fun c => absurd c (by decide), fun c => absurd c (by decide), fun c => absurd c (by decide), fun c => absurd c (by decide), fun c16 c17 c18 c19 c20 c21 c22 c23 => absurd rfl c19⟩
  by_cases hr : i16 (iI m1 / iI m2).toInt
  · refine s_opV (w := vnum (iI m1 / iI m2).toInt) hX hF hr (fun φ b lo hi G n p2 R hG hn kk => ?_) (fun g k n R hM hV h13 hn kk => ⟨fun c => absurd c (by decide), fun _ _ => ?_, fun c => absurd c (by decide)⟩)
    · refine c_ansM (L0 := []) (m := 2) hG.2.1 ll rfl ?_
      unfold AnsB
      refine ⟨by decide, vp_in_nI (n := 20) (by decide) (by decide), eqI ⟨fun c => absurd c (by decide), fun c => absurd c (by decide), fun c => absurd c (by decide), fun c => absurd c (by decide), fun c => absurd c (by decide), fun c => absurd c (by decide), fun c => absurd c (by decide), fun c => absurd c (by decide), fun c => absurd c (by decide), fun c => absurd c (by decide), fun c => absurd c (by decide), fun c => absurd c (by decide), fun c => absurd c (by decide), fun c => absurd c (by decide), fun _ _ _ _ _ _ _ _ _ _ _ _ _ _ => ?_⟩⟩
      refine c_comp h1 h2 ⟨by decide, vp_in_nI (n := 20) (by decide) (by decide), eqI ⟨fun c => absurd c (by decide), fun c => absurd c (by decide), fun c => absurd c (by decide), fun _ => ?_, fun c => absurd c (by decide), fun c => absurd c (by decide), fun c => absurd c (by decide), fun c => absurd c (by decide), fun c24 c25 c26 c27 c28 c29 c30 c31 => absurd rfl c27⟩⟩
      exact ⟨fun _ => ⟨h0, c_ranged (φ := φ) (fun _ => kk) (fun c => absurd hr c)⟩, fun c => absurd c h0⟩
    · obtain ⟨e1, e2⟩ := vl_2 (l := allv K) hV
      rw [e1, e2]
      unfold V_X12_numbers
      refine ⟨fun _ => r_sort hva.ok ⟨fun c => absurd rfl c, fun _ => r_sort hvv.ok ⟨fun _ => r_amount h1.1 h1.2 (r_amount h2.1 h2.2 ?_), fun c => absurd rfl c⟩⟩, fun c => absurd c (by decide)⟩
      exact ⟨fun c => absurd c (by decide), fun c => absurd c (by decide), fun c => absurd c (by decide), fun _ => ⟨fun _ => ⟨h0, r_ranged (fun _ => kk) (fun c => absurd hr c)⟩, fun c => absurd c h0⟩, fun c => absurd c (by decide), fun c => absurd c (by decide), fun c => absurd c (by decide), fun c => absurd c (by decide), fun c16 c17 c18 c19 c20 c21 c22 c23 => absurd rfl c19⟩
  · refine s_opE (er := 5) hX hF (by decide) (by decide) (fun φ b lo hi G n p2 R hG hn kk => ?_) (fun g k n R hM hV h13 hn kk => ⟨fun c => absurd c (by decide), fun _ _ => ?_, fun c => absurd c (by decide)⟩)
    · refine c_ansM (L0 := []) (m := 2) hG.2.1 ll rfl ?_
      unfold AnsB
      refine ⟨by decide, vp_in_nI (n := 20) (by decide) (by decide), eqI ⟨fun c => absurd c (by decide), fun c => absurd c (by decide), fun c => absurd c (by decide), fun c => absurd c (by decide), fun c => absurd c (by decide), fun c => absurd c (by decide), fun c => absurd c (by decide), fun c => absurd c (by decide), fun c => absurd c (by decide), fun c => absurd c (by decide), fun c => absurd c (by decide), fun c => absurd c (by decide), fun c => absurd c (by decide), fun c => absurd c (by decide), fun _ _ _ _ _ _ _ _ _ _ _ _ _ _ => ?_⟩⟩
      refine c_comp h1 h2 ⟨by decide, vp_in_nI (n := 20) (by decide) (by decide), eqI ⟨fun c => absurd c (by decide), fun c => absurd c (by decide), fun c => absurd c (by decide), fun _ => ?_, fun c => absurd c (by decide), fun c => absurd c (by decide), fun c => absurd c (by decide), fun c => absurd c (by decide), fun c24 c25 c26 c27 c28 c29 c30 c31 => absurd rfl c27⟩⟩
      exact ⟨fun _ => ⟨h0, c_ranged (φ := φ) (fun c => absurd c hr) (fun _ => kk _)⟩, fun c => absurd c h0⟩
    · obtain ⟨e1, e2⟩ := vl_2 (l := allv K) hV
      rw [e1, e2]
      unfold V_X12_numbers
      refine ⟨fun _ => r_sort hva.ok ⟨fun c => absurd rfl c, fun _ => r_sort hvv.ok ⟨fun _ => r_amount h1.1 h1.2 (r_amount h2.1 h2.2 ?_), fun c => absurd rfl c⟩⟩, fun c => absurd c (by decide)⟩
      exact ⟨fun c => absurd c (by decide), fun c => absurd c (by decide), fun c => absurd c (by decide), fun _ => ⟨fun _ => ⟨h0, r_ranged (fun c => absurd c hr) (fun _ => kk _)⟩, fun c => absurd c h0⟩, fun c => absurd c (by decide), fun c => absurd c (by decide), fun c => absurd c (by decide), fun c => absurd c (by decide), fun c16 c17 c18 c19 c20 c21 c22 c23 => absurd rfl c19⟩
theorem s_21 {K : List Fr} {i st e q p D p1 : Nat} {sc : List (List Nat)} {vs : List Va} {v : Va} (hX : XC x G0 N) (hF : OpF x sv rc hp out inp cn K 21 i st e q p D p1 sc (v :: vs)) : Stq x G0 N cv cf ((1, p, v), (21, i, [], st, e, q, vs) :: K, sv, rc, hp, out, inp, cn) := by
  obtain ⟨a, rfl⟩ := two_parts hF rfl rfl
  have hva : VV x.K x.C hp a := hF.2.2.2.1 a (by simp)
  have hvv : VV x.K x.C hp v := hF.2.2.2.1 v (by simp)
  have hu := hF.1.2.2.2.2.2.2.1
  have l2 := hF.2.2.2.2.2.2.2.2.2.2.2.2.2.2.2.2.2.1
  have ll : ([] ++ gv v :: gv a :: (cvl K).map gv).length ≤ 1550 := by
    show ((cvl K).map gv).length + 1 + 1 ≤ 1550
    rw [List.length_map]; omega
  by_cases hk : vkd a = 2 ∧ vkd v = 2
  case neg =>
    refine s_opE (er := 4) hX hF (by decide) (by decide) (fun φ b lo hi G n p2 R hG hn kk => ?_) (fun g k n R hM hV h13 hn kk => ⟨fun c => absurd c (by decide), fun _ _ => ?_, fun c => absurd c (by decide)⟩)
    · refine c_ansM (L0 := []) (m := 2) hG.2.1 ll rfl ?_
      unfold AnsB
      exact ⟨by decide, vp_in_nI (n := 21) (by decide) (by decide), eqI ⟨fun c => absurd c (by decide), fun c => absurd c (by decide), fun c => absurd c (by decide), fun c => absurd c (by decide), fun c => absurd c (by decide), fun c => absurd c (by decide), fun c => absurd c (by decide), fun c => absurd c (by decide), fun c => absurd c (by decide), fun c => absurd c (by decide), fun c => absurd c (by decide), fun c => absurd c (by decide), fun c => absurd c (by decide), fun c => absurd c (by decide), fun _ _ _ _ _ _ _ _ _ _ _ _ _ _ => c_compX (CWd.rng hX hu hG.1) hva hvv hk (kk _)⟩⟩
    · obtain ⟨e1, e2⟩ := vl_2 (l := allv K) hV
      have hk1 := va_kd_lt a
      have hk2 := va_kd_lt v
      rw [e1, e2]
      unfold V_X12_numbers V_X12_fail
      refine ⟨fun _ => r_sort hva.ok ⟨fun _ => eqI (kk _), fun c1 => r_sort hvv.ok ⟨fun c2 => ?_, fun _ => eqI (kk _)⟩⟩, fun c => absurd c (by decide)⟩
      exact absurd ⟨(nI_eq (b := 2) (by omega) (by decide)).mp c1, (nI_eq (b := 2) (by omega) (by decide)).mp c2⟩ hk
  obtain ⟨m1, rfl⟩ := num_of hk.1
  obtain ⟨m2, rfl⟩ := num_of hk.2
  have h1 : i16 m1 := hva
  have h2 : i16 m2 := hvv
  refine s_opV (w := if decide (¬ iI m2 ≤ iI m1) then vsym 0 else vnil) hX hF (by split <;> first | trivial | (show 0 < 40; decide)) (fun φ b lo hi G n p2 R hG hn kk => ?_) (fun g k n R hM hV h13 hn kk => ⟨fun c => absurd c (by decide), fun _ _ => ?_, fun c => absurd c (by decide)⟩)
  · refine c_ansM (L0 := []) (m := 2) hG.2.1 ll rfl ?_
    unfold AnsB
    refine ⟨by decide, vp_in_nI (n := 21) (by decide) (by decide), eqI ⟨fun c => absurd c (by decide), fun c => absurd c (by decide), fun c => absurd c (by decide), fun c => absurd c (by decide), fun c => absurd c (by decide), fun c => absurd c (by decide), fun c => absurd c (by decide), fun c => absurd c (by decide), fun c => absurd c (by decide), fun c => absurd c (by decide), fun c => absurd c (by decide), fun c => absurd c (by decide), fun c => absurd c (by decide), fun c => absurd c (by decide), fun _ _ _ _ _ _ _ _ _ _ _ _ _ _ => ?_⟩⟩
    refine c_comp h1 h2 ⟨by decide, vp_in_nI (n := 21) (by decide) (by decide), eqI ⟨fun c => absurd c (by decide), fun c => absurd c (by decide), fun c => absurd c (by decide), fun c => absurd c (by decide), fun _ => ?_, fun c => absurd c (by decide), fun c => absurd c (by decide), fun c => absurd c (by decide), fun c24 c25 c26 c27 c28 c29 c30 c31 => absurd rfl c28⟩⟩
    refine ⟨fun c => c_truth (φ := φ) (t := false) ?_, fun c => c_truth (φ := φ) (t := true) ?_⟩
    · rw [show decide (¬ iI m2 ≤ iI m1) = false from decide_eq_false (fun h => h c)] at kk; exact kk
    · rw [show decide (¬ iI m2 ≤ iI m1) = true from decide_eq_true c] at kk; exact kk
  · obtain ⟨e1, e2⟩ := vl_2 (l := allv K) hV
    rw [e1, e2]
    unfold V_X12_numbers
    refine ⟨fun _ => r_sort hva.ok ⟨fun c => absurd rfl c, fun _ => r_sort hvv.ok ⟨fun _ => r_amount h1.1 h1.2 (r_amount h2.1 h2.2 ?_), fun c => absurd rfl c⟩⟩, fun c => absurd c (by decide)⟩
    refine ⟨fun c => absurd c (by decide), fun c => absurd c (by decide), fun c => absurd c (by decide), fun c => absurd c (by decide), fun _ => ?_, fun c => absurd c (by decide), fun c => absurd c (by decide), fun c => absurd c (by decide), fun c16 c17 c18 c19 c20 c21 c22 c23 => absurd rfl c20⟩
    refine ⟨fun c => r_truth (t := false) ?_, fun c => r_truth (t := true) ?_⟩
    · rw [show decide (¬ iI m2 ≤ iI m1) = false from decide_eq_false (fun h => h c)] at kk; exact kk
    · rw [show decide (¬ iI m2 ≤ iI m1) = true from decide_eq_true c] at kk; exact kk
theorem s_25 {K : List Fr} {i st e q p D p1 : Nat} {sc : List (List Nat)} {vs : List Va} {v : Va} (hX : XC x G0 N) (hF : OpF x sv rc hp out inp cn K 25 i st e q p D p1 sc (v :: vs)) : Stq x G0 N cv cf ((1, p, v), (25, i, [], st, e, q, vs) :: K, sv, rc, hp, out, inp, cn) := by
  obtain ⟨a, rfl⟩ := two_parts hF rfl rfl
  have hva : VV x.K x.C hp a := hF.2.2.2.1 a (by simp)
  have hvv : VV x.K x.C hp v := hF.2.2.2.1 v (by simp)
  have hu := hF.1.2.2.2.2.2.2.1
  have l2 := hF.2.2.2.2.2.2.2.2.2.2.2.2.2.2.2.2.2.1
  have ll : ([] ++ gv v :: gv a :: (cvl K).map gv).length ≤ 1550 := by
    show ((cvl K).map gv).length + 1 + 1 ≤ 1550
    rw [List.length_map]; omega
  by_cases hk : vkd a = 2 ∧ vkd v = 2
  case neg =>
    refine s_opE (er := 4) hX hF (by decide) (by decide) (fun φ b lo hi G n p2 R hG hn kk => ?_) (fun g k n R hM hV h13 hn kk => ⟨fun c => absurd c (by decide), fun _ _ => ?_, fun c => absurd c (by decide)⟩)
    · refine c_ansM (L0 := []) (m := 2) hG.2.1 ll rfl ?_
      unfold AnsB
      exact ⟨by decide, vp_in_nI (n := 25) (by decide) (by decide), eqI ⟨fun c => absurd c (by decide), fun c => absurd c (by decide), fun c => absurd c (by decide), fun c => absurd c (by decide), fun c => absurd c (by decide), fun c => absurd c (by decide), fun c => absurd c (by decide), fun c => absurd c (by decide), fun c => absurd c (by decide), fun c => absurd c (by decide), fun c => absurd c (by decide), fun c => absurd c (by decide), fun c => absurd c (by decide), fun c => absurd c (by decide), fun _ _ _ _ _ _ _ _ _ _ _ _ _ _ => c_compX (CWd.rng hX hu hG.1) hva hvv hk (kk _)⟩⟩
    · obtain ⟨e1, e2⟩ := vl_2 (l := allv K) hV
      have hk1 := va_kd_lt a
      have hk2 := va_kd_lt v
      rw [e1, e2]
      unfold V_X12_numbers V_X12_fail
      refine ⟨fun _ => r_sort hva.ok ⟨fun _ => eqI (kk _), fun c1 => r_sort hvv.ok ⟨fun c2 => ?_, fun _ => eqI (kk _)⟩⟩, fun c => absurd c (by decide)⟩
      exact absurd ⟨(nI_eq (b := 2) (by omega) (by decide)).mp c1, (nI_eq (b := 2) (by omega) (by decide)).mp c2⟩ hk
  obtain ⟨m1, rfl⟩ := num_of hk.1
  obtain ⟨m2, rfl⟩ := num_of hk.2
  have h1 : i16 m1 := hva
  have h2 : i16 m2 := hvv
  have lit15 : (iI m2 < (-15 : Int32) ↔ m2 < -15) ∧ (iI m2 ≤ (15 : Int32) ↔ m2 ≤ 15) ∧ (iI m2 < 0 ↔ m2 < 0) ∧ (0 ≤ iI m2 ↔ 0 ≤ m2) := by
    have b1 := h2.1
    have b2 := h2.2
    refine ⟨?_, ?_, ?_, ?_⟩
    · rw [show (-15 : Int32) = iI (-15) from rfl]; exact iI_lt (by omega) (by omega) (by decide) (by decide)
    · rw [show (15 : Int32) = iI 15 from rfl]; exact iI_le (by omega) (by omega) (by decide) (by decide)
    · rw [show (0 : Int32) = iI 0 from rfl]; exact iI_lt (by omega) (by omega) (by decide) (by decide)
    · rw [show (0 : Int32) = iI 0 from rfl]; exact iI_le (by decide) (by decide) (by omega) (by omega)
  obtain ⟨t1, t2, t3, t4⟩ := lit15
  by_cases hs : m2 < -15 ∨ 15 < m2
  · refine s_opE (er := 4) hX hF (by decide) (by decide) (fun φ b lo hi G n p2 R hG hn kk => ?_) (fun g k n R hM hV h13 hn kk => ⟨fun c => absurd c (by decide), fun _ _ => ?_, fun c => absurd c (by decide)⟩)
    · refine c_ansM (L0 := []) (m := 2) hG.2.1 ll rfl ?_
      unfold AnsB
      refine ⟨by decide, vp_in_nI (n := 25) (by decide) (by decide), eqI ⟨fun c => absurd c (by decide), fun c => absurd c (by decide), fun c => absurd c (by decide), fun c => absurd c (by decide), fun c => absurd c (by decide), fun c => absurd c (by decide), fun c => absurd c (by decide), fun c => absurd c (by decide), fun c => absurd c (by decide), fun c => absurd c (by decide), fun c => absurd c (by decide), fun c => absurd c (by decide), fun c => absurd c (by decide), fun c => absurd c (by decide), fun _ _ _ _ _ _ _ _ _ _ _ _ _ _ => ?_⟩⟩
      refine c_comp h1 h2 ⟨by decide, vp_in_nI (n := 25) (by decide) (by decide), eqI ⟨fun c => absurd c (by decide), fun c => absurd c (by decide), fun c => absurd c (by decide), fun c => absurd c (by decide), fun c => absurd c (by decide), fun c => absurd c (by decide), fun c => absurd c (by decide), fun c => absurd c (by decide), fun _ _ _ _ _ _ _ _ => ?_⟩⟩
      unfold V_X7_shifted V_X7_failing
      refine ⟨fun _ => eqI (kk _), fun c => ⟨fun c2 => ?_, fun _ => eqI (kk _)⟩⟩
      have := t2.mp c2
      have : ¬ m2 < -15 := fun h => c (t1.mpr h)
      omega
    · obtain ⟨e1, e2⟩ := vl_2 (l := allv K) hV
      rw [e1, e2]
      unfold V_X12_numbers
      refine ⟨fun _ => r_sort hva.ok ⟨fun c => absurd rfl c, fun _ => r_sort hvv.ok ⟨fun _ => r_amount h1.1 h1.2 (r_amount h2.1 h2.2 ?_), fun c => absurd rfl c⟩⟩, fun c => absurd c (by decide)⟩
      refine ⟨fun c => absurd c (by decide), fun c => absurd c (by decide), fun c => absurd c (by decide), fun c => absurd c (by decide), fun c => absurd c (by decide), fun c => absurd c (by decide), fun c => absurd c (by decide), fun c => absurd c (by decide), fun _ _ _ _ _ _ _ _ => ?_⟩
      refine ⟨fun _ => eqI (kk _), fun c => ⟨fun c2 => ?_, fun _ => eqI (kk _)⟩⟩
      have := t2.mp c2
      have : ¬ m2 < -15 := fun h => c (t1.mpr h)
      omega
  by_cases hg : m2 < 0
  · refine s_opV (w := vnum (((iI m1 &&& (65535 : Int32)) >>> ((-(iI m2)) &&& 31)).toInt16.toInt32).toInt) hX hF (i16_cast _) (fun φ b lo hi G n p2 R hG hn kk => ?_) (fun g k n R hM hV h13 hn kk => ⟨fun c => absurd c (by decide), fun _ _ => ?_, fun c => absurd c (by decide)⟩)
    · refine c_ansM (L0 := []) (m := 2) hG.2.1 ll rfl ?_
      unfold AnsB
      refine ⟨by decide, vp_in_nI (n := 25) (by decide) (by decide), eqI ⟨fun c => absurd c (by decide), fun c => absurd c (by decide), fun c => absurd c (by decide), fun c => absurd c (by decide), fun c => absurd c (by decide), fun c => absurd c (by decide), fun c => absurd c (by decide), fun c => absurd c (by decide), fun c => absurd c (by decide), fun c => absurd c (by decide), fun c => absurd c (by decide), fun c => absurd c (by decide), fun c => absurd c (by decide), fun c => absurd c (by decide), fun _ _ _ _ _ _ _ _ _ _ _ _ _ _ => ?_⟩⟩
      refine c_comp h1 h2 ⟨by decide, vp_in_nI (n := 25) (by decide) (by decide), eqI ⟨fun c => absurd c (by decide), fun c => absurd c (by decide), fun c => absurd c (by decide), fun c => absurd c (by decide), fun c => absurd c (by decide), fun c => absurd c (by decide), fun c => absurd c (by decide), fun c => absurd c (by decide), fun _ _ _ _ _ _ _ _ => ?_⟩⟩
      unfold V_X7_shifted
      refine ⟨fun c => absurd (t1.mp c) (by omega), fun _ => ⟨fun _ => eqI ⟨fun _ => eqI (c_num (φ := φ) kk), fun c => absurd (t3.mpr hg) c⟩, fun c => absurd (t2.mpr (by omega)) c⟩⟩
    · obtain ⟨e1, e2⟩ := vl_2 (l := allv K) hV
      rw [e1, e2]
      unfold V_X12_numbers
      refine ⟨fun _ => r_sort hva.ok ⟨fun c => absurd rfl c, fun _ => r_sort hvv.ok ⟨fun _ => r_amount h1.1 h1.2 (r_amount h2.1 h2.2 ?_), fun c => absurd rfl c⟩⟩, fun c => absurd c (by decide)⟩
      refine ⟨fun c => absurd c (by decide), fun c => absurd c (by decide), fun c => absurd c (by decide), fun c => absurd c (by decide), fun c => absurd c (by decide), fun c => absurd c (by decide), fun c => absurd c (by decide), fun c => absurd c (by decide), fun _ _ _ _ _ _ _ _ => ?_⟩
      exact ⟨fun c => absurd (t1.mp c) (by omega), fun _ => ⟨fun _ => eqI ⟨fun c => absurd (t4.mp c) (by omega), fun _ => r_num (i16_cast _) kk⟩, fun c => absurd (t2.mpr (by omega)) c⟩⟩
  · refine s_opV (w := vnum (((iI m1 &&& (65535 : Int32)) <<< (iI m2 &&& 31)).toInt16.toInt32).toInt) hX hF (i16_cast _) (fun φ b lo hi G n p2 R hG hn kk => ?_) (fun g k n R hM hV h13 hn kk => ⟨fun c => absurd c (by decide), fun _ _ => ?_, fun c => absurd c (by decide)⟩)
    · refine c_ansM (L0 := []) (m := 2) hG.2.1 ll rfl ?_
      unfold AnsB
      refine ⟨by decide, vp_in_nI (n := 25) (by decide) (by decide), eqI ⟨fun c => absurd c (by decide), fun c => absurd c (by decide), fun c => absurd c (by decide), fun c => absurd c (by decide), fun c => absurd c (by decide), fun c => absurd c (by decide), fun c => absurd c (by decide), fun c => absurd c (by decide), fun c => absurd c (by decide), fun c => absurd c (by decide), fun c => absurd c (by decide), fun c => absurd c (by decide), fun c => absurd c (by decide), fun c => absurd c (by decide), fun _ _ _ _ _ _ _ _ _ _ _ _ _ _ => ?_⟩⟩
      refine c_comp h1 h2 ⟨by decide, vp_in_nI (n := 25) (by decide) (by decide), eqI ⟨fun c => absurd c (by decide), fun c => absurd c (by decide), fun c => absurd c (by decide), fun c => absurd c (by decide), fun c => absurd c (by decide), fun c => absurd c (by decide), fun c => absurd c (by decide), fun c => absurd c (by decide), fun _ _ _ _ _ _ _ _ => ?_⟩⟩
      unfold V_X7_shifted
      refine ⟨fun c => absurd (t1.mp c) (by omega), fun _ => ⟨fun _ => eqI ⟨fun c => absurd (t3.mp c) hg, fun _ => eqI (c_num (φ := φ) kk)⟩, fun c => absurd (t2.mpr (by omega)) c⟩⟩
    · obtain ⟨e1, e2⟩ := vl_2 (l := allv K) hV
      rw [e1, e2]
      unfold V_X12_numbers
      refine ⟨fun _ => r_sort hva.ok ⟨fun c => absurd rfl c, fun _ => r_sort hvv.ok ⟨fun _ => r_amount h1.1 h1.2 (r_amount h2.1 h2.2 ?_), fun c => absurd rfl c⟩⟩, fun c => absurd c (by decide)⟩
      refine ⟨fun c => absurd c (by decide), fun c => absurd c (by decide), fun c => absurd c (by decide), fun c => absurd c (by decide), fun c => absurd c (by decide), fun c => absurd c (by decide), fun c => absurd c (by decide), fun c => absurd c (by decide), fun _ _ _ _ _ _ _ _ => ?_⟩
      exact ⟨fun c => absurd (t1.mp c) (by omega), fun _ => ⟨fun _ => eqI ⟨fun _ => r_num (i16_cast _) kk, fun c => absurd (t4.mpr (by omega)) c⟩, fun c => absurd (t2.mpr (by omega)) c⟩⟩
end NN
