section LAWS
theorem and7 (x : Int32) : x &&& 7 = 0 ∨ x &&& 7 = 1 ∨ x &&& 7 = 2 ∨ x &&& 7 = 3 ∨ x &&& 7 = 4 ∨ x &&& 7 = 5 ∨ x &&& 7 = 6 ∨ x &&& 7 = 7 := by
  have h : ∀ b : BitVec 32, b &&& 7#32 = 0#32 ∨ b &&& 7#32 = 1#32 ∨ b &&& 7#32 = 2#32 ∨ b &&& 7#32 = 3#32 ∨ b &&& 7#32 = 4#32 ∨ b &&& 7#32 = 5#32 ∨ b &&& 7#32 = 6#32 ∨ b &&& 7#32 = 7#32 := by
    intro b
    have h1 : (b &&& 7#32).toNat = b.toNat % 8 := by
      rw [BitVec.toNat_and]
      exact Nat.and_two_pow_sub_one_eq_mod b.toNat 3
    have h2 : b.toNat % 8 < 8 := Nat.mod_lt _ (by decide)
    rcases (show b.toNat % 8 = 0 ∨ b.toNat % 8 = 1 ∨ b.toNat % 8 = 2 ∨ b.toNat % 8 = 3 ∨ b.toNat % 8 = 4 ∨ b.toNat % 8 = 5 ∨ b.toNat % 8 = 6 ∨ b.toNat % 8 = 7 by omega) with h3 | h3 | h3 | h3 | h3 | h3 | h3 | h3
    · exact Or.inl (BitVec.eq_of_toNat_eq (h1.trans h3))
    · exact Or.inr (Or.inl (BitVec.eq_of_toNat_eq (h1.trans h3)))
    · exact Or.inr (Or.inr (Or.inl (BitVec.eq_of_toNat_eq (h1.trans h3))))
    · exact Or.inr (Or.inr (Or.inr (Or.inl (BitVec.eq_of_toNat_eq (h1.trans h3)))))
    · exact Or.inr (Or.inr (Or.inr (Or.inr (Or.inl (BitVec.eq_of_toNat_eq (h1.trans h3))))))
    · exact Or.inr (Or.inr (Or.inr (Or.inr (Or.inr (Or.inl (BitVec.eq_of_toNat_eq (h1.trans h3)))))))
    · exact Or.inr (Or.inr (Or.inr (Or.inr (Or.inr (Or.inr (Or.inl (BitVec.eq_of_toNat_eq (h1.trans h3))))))))
    · exact Or.inr (Or.inr (Or.inr (Or.inr (Or.inr (Or.inr (Or.inr (BitVec.eq_of_toNat_eq (h1.trans h3))))))))
  have hh := h x.toBitVec
  have cv : ∀ y : Int32, x.toBitVec &&& 7#32 = y.toBitVec → x &&& 7 = y := fun y e => Int32.toBitVec_inj.mp ((Int32.toBitVec_and x 7).trans e)
  rcases hh with e | e | e | e | e | e | e | e
  · exact Or.inl (cv 0 e)
  · exact Or.inr (Or.inl (cv 1 e))
  · exact Or.inr (Or.inr (Or.inl (cv 2 e)))
  · exact Or.inr (Or.inr (Or.inr (Or.inl (cv 3 e))))
  · exact Or.inr (Or.inr (Or.inr (Or.inr (Or.inl (cv 4 e)))))
  · exact Or.inr (Or.inr (Or.inr (Or.inr (Or.inr (Or.inl (cv 5 e))))))
  · exact Or.inr (Or.inr (Or.inr (Or.inr (Or.inr (Or.inr (Or.inl (cv 6 e)))))))
  · exact Or.inr (Or.inr (Or.inr (Or.inr (Or.inr (Or.inr (Or.inr (cv 7 e)))))))
theorem len2 : ∀ L : Nat, L < 130 → (nI L - 2).toInt = (L : Int) - 2 := by decide +kernel
variable {ea : Nat → Nat → Nat} {p : Program} {l : Launch} {e : Env} {s : State} {m : MethodId} {below : List Frame} {meth : Method} {c : Code} {D : va_G} {cI cC cZ cJ : ClassId} {b L : Nat} {xs : Nat → Int32}
set_option maxHeartbeats 4000000 in
set_option maxRecDepth 100000 in
theorem law_loop (Inv : Nat → Nat → SG → St → StL → (Nat → Int64) → Prop) (hstep : ∀ (j N : Nat) (G : SG) (g : St) (k : StL) (f : Nat → Int64) (c v : Int32), j < 64 → Inv j N G g k f → LStep c v N G g k f (fun G1 g1 k1 f1 => Inv (j + 1) N G1 g1 k1 f1))
    (hL : L ≤ 129) (hr : meth.sig.returnType = ret) (hlocks : meth.locks = false) (hC : CF p m c s b) (hlt : l.stackTraces = false) (hX : va_X b L xs s s.heap) (hbl : b < s.heap.size) (hE : EnT ea (AL s) s s.heap) (hNC : NCs s) (ad bd : Nat → Nat) (o N : Nat) :
    ∀ (n j : Nat) (x4 : Int32), j ≤ 64 → x4 = nI (1 + 2 * j) → L ≤ 1 + 2 * j + 2 * n → ∀ (G : SG) (g : St) (k : StL) (f : Nat → Int64) (H : Heap) (locs : List Loc) (ls : Array Slot) (cells slots : Nat), cells ≤ 500 + j → slots ≤ 50000 + 6 * j → Inv j N G g k f → Wd D (ty4 cI cC cZ cJ) (AL s) s (wLw ad bd o cI cC cZ cJ N G g k f) H locs → lv_has ls 7 [(0, .ref b), (1, .ref (ad 0)), (2, .ref (bd 0)), (3, .ref o), (4, .int x4)] → W p l e room_1 s m #[Value.ref b] below meth c H locs cells slots (lw_Z below #[Value.ref b] s) (F0 m 33 ls []) := by
  have hx := hC.1
  have hb := hC.2.1
  have hbA : ¬ AL s b := Nat.not_le.mpr hbl
  have fin : ∀ (H : Heap) (locs : List Loc) (ls : Array Slot) (cells slots : Nat), cells ≤ 5000 → slots ≤ 100000 → va_S (AL s) s.heap H locs → W p l e room_1 s m #[Value.ref b] below meth c H locs cells slots (lw_Z below #[Value.ref b] s) (F0 m 452 ls []) := by
    intro H locs ls cells slots h1 h2 hS
    refine lv_iconst (v := 1) hx hb dL_law_452 (by decide) ?_
    refine va_forget (fun q hq => hS.2.2 q hq) ?_
    refine W.widen (k := 600384) (n := 7290448) (by omega) (by omega) ?_
    exact lw_ret hx hb hr hlocks dL_law_453
  intro n
  induction n with
  | zero =>
    intro j x4 hj ex hn G g k f H locs ls cells slots hc hs hI hw hl
    refine lv_iload hx hb dL_law_33 (lv_at hl 4 rfl) ?_
    refine lv_aload_n hx hb dL_law_35 rfl (lv_at hl 0 rfl) ?_
    refine va_slen hx hb hX hbl hbA hw.2.2.2.1 dL_law_36 ?_
    refine lv_iconst (v := 2) hx hb dL_law_37 (by decide) ?_
    refine lv_isub hx hb dL_law_38 ?_
    refine lv_icmp_gt (tgt := 452) hx hb dL_law_39 (by decide) (fun _ => ?_) (fun h0 => ?_)
    · exact fin H locs ls cells slots (by omega) (by omega) hw.2.2.2.1
    · exfalso
      apply h0
      rw [Int32.lt_iff_toInt_lt, show (Int32.ofNat L - 2).toInt = (L : Int) - 2 from len2 L (by omega), ex, nI_toInt (by omega)]
      omega
  | succ n ih =>
    intro j x4 hj ex hn G g k f H locs ls cells slots hc hs hI hw hl
    refine lv_iload hx hb dL_law_33 (lv_at hl 4 rfl) ?_
    refine lv_aload_n hx hb dL_law_35 rfl (lv_at hl 0 rfl) ?_
    refine va_slen hx hb hX hbl hbA hw.2.2.2.1 dL_law_36 ?_
    refine lv_iconst (v := 2) hx hb dL_law_37 (by decide) ?_
    refine lv_isub hx hb dL_law_38 ?_
    refine lv_icmp_gt (tgt := 452) hx hb dL_law_39 (by decide) (fun _ => ?_) (fun h0 => ?_)
    · exact fin H locs ls cells slots (by omega) (by omega) hw.2.2.2.1
    have hi : 2 * j + 3 ≤ L := by
      rcases Nat.lt_or_ge L (2 * j + 3) with h | h
      · exfalso
        apply h0
        rw [Int32.lt_iff_toInt_lt, show (Int32.ofNat L - 2).toInt = (L : Int) - 2 from len2 L (by omega), ex, nI_toInt (by omega)]
        omega
      · exact h
    have hin0 : vp_in x4 L := by rw [ex]; exact vp_in_nI (by omega) (by omega)
    have hin : vp_in (x4 + 1) L := by rw [ex, nI_1]; exact vp_in_nI (by omega) (by omega)
    refine lv_aload_n hx hb dL_law_42 rfl (lv_at hl 0 rfl) ?_
    refine lv_iload hx hb dL_law_43 (lv_at hl 4 rfl) ?_
    refine va_sld hx hb hX hbl hbA hw.2.2.2.1 hin0 dL_law_45 ?_
    refine lv_bipush (v := 7) hx hb dL_law_46 (by decide) ?_
    refine lv_iand hx hb dL_law_48 ?_
    have hz := and7 (xs x4.toNatClampNeg)
    refine lv_topi (fun z ez => ?_)
    rw [← ez] at hz
    have hS := hstep j N G g k f z (xs (x4 + 1).toNatClampNeg) (by omega) hI
    have kk : ∀ (G1 : SG) (g1 : St) (k1 : StL) (f1 : Nat → Int64) (H1 : Heap) (locs1 : List Loc) (ls1 : Array Slot), Inv (j + 1) N G1 g1 k1 f1 → Wd D (ty4 cI cC cZ cJ) (AL s) s (wLw ad bd o cI cC cZ cJ N G1 g1 k1 f1) H1 locs1 → lv_has ls1 7 [(0, .ref b), (1, .ref (ad 0)), (2, .ref (bd 0)), (3, .ref o), (4, .int x4)] → W p l e room_1 s m #[Value.ref b] below meth c H1 locs1 (cells + 1) (slots + 6) (lw_Z below #[Value.ref b] s) (F0 m 446 ls1 []) := by
      intro G1 g1 k1 f1 H1 locs1 ls1 hI1 hw1 hl1
      refine lv_iinc (v := x4 + 2) (lv' := [(4, .int (x4 + 2)), (0, .ref b), (1, .ref (ad 0)), (2, .ref (bd 0)), (3, .ref o)]) hx hb dL_law_446 hl1 (k := 4) rfl rfl (by decide) rfl (fun ls hl => ?_)
      refine lv_goto (tgt := 33) hx hb dL_law_449 (by decide) ?_
      exact ih (j + 1) (x4 + 2) (by omega) (by rw [ex]; exact nI_add _ 2) (by omega) G1 g1 k1 f1 H1 locs1 ls _ _ (by omega) (by omega) hI1 hw1 (lv_sub hl [1, 2, 3, 4, 0] rfl)
    obtain ⟨s0, s1, s2, s3, s4, s5, s6, s7⟩ := hS
    rcases hz with e0 | e0 | e0 | e0 | e0 | e0 | e0 | e0
    · refine lv_tableIn (off := 47) (tgt := 96) hx hb dL_law_49 (by rw [e0]; decide) (by rw [e0]; decide) (by rw [e0]; decide) (by decide) ?_
      exact law_type hC hlt hX hbl hE hNC hw hl hin (by omega) (by omega) (s0 e0) kk
    · refine lv_tableIn (off := 103) (tgt := 152) hx hb dL_law_49 (by rw [e0]; decide) (by rw [e0]; decide) (by rw [e0]; decide) (by decide) ?_
      exact law_cancel hC hlt hX hbl hE hNC hw hl (by omega) (by omega) (s1 e0) kk
    · refine lv_tableIn (off := 116) (tgt := 165) hx hb dL_law_49 (by rw [e0]; decide) (by rw [e0]; decide) (by rw [e0]; decide) (by decide) ?_
      exact law_take hC hlt hX hbl hE hNC hw hl hin (by omega) (by omega) (s2 e0) kk
    · refine lv_tableIn (off := 160) (tgt := 209) hx hb dL_law_49 (by rw [e0]; decide) (by rw [e0]; decide) (by rw [e0]; decide) (by decide) ?_
      exact law_give hC hlt hX hbl hE hNC hw hl hin (by omega) (by omega) (s3 e0) kk
    · refine lv_tableIn (off := 216) (tgt := 265) hx hb dL_law_49 (by rw [e0]; decide) (by rw [e0]; decide) (by rw [e0]; decide) (by decide) ?_
      exact law_collect hC hlt hX hbl hE hNC hw hl (by omega) (by omega) (s4 e0) kk
    · refine lv_tableIn (off := 229) (tgt := 278) hx hb dL_law_49 (by rw [e0]; decide) (by rw [e0]; decide) (by rw [e0]; decide) (by decide) ?_
      exact law_kind hC hlt hX hbl hE hNC hw hl hin (by omega) (by omega) (s5 e0) kk
    · refine lv_tableIn (off := 285) (tgt := 334) hx hb dL_law_49 (by rw [e0]; decide) (by rw [e0]; decide) (by rw [e0]; decide) (by decide) ?_
      exact law_number hC hlt hX hbl hE hNC hw hl hin (by omega) (by omega) (s6 e0) kk
    · refine lv_tableIn (off := 341) (tgt := 390) hx hb dL_law_49 (by rw [e0]; decide) (by rw [e0]; decide) (by rw [e0]; decide) (by decide) ?_
      exact law_count hC hlt hX hbl hE hNC hw hl hin (by omega) (by omega) (s7 e0) kk
set_option maxHeartbeats 4000000 in
set_option maxRecDepth 100000 in
/-- THE LAW out of an invariant of its two machines -/
theorem law_start (Inv : Nat → Nat → SG → St → StL → (Nat → Int64) → Prop) (hinit : ∀ x : Int32, ∃ n, V_X11_init n x (fun N G => ∃ n2, V_X12_init n2 x (fun g k => Inv 0 N G g k (fun _ => 0)))) (hstep : ∀ (j N : Nat) (G : SG) (g : St) (k : StL) (f : Nat → Int64) (c v : Int32), j < 64 → Inv j N G g k f → LStep c v N G g k f (fun G1 g1 k1 f1 => Inv (j + 1) N G1 g1 k1 f1))
    (hlt : l.stackTraces = false) (hL : L ≤ 129) (C0 : lw_At p s m meth c b L xs) : W p l e room_1 s m #[Value.ref b] below meth c s.heap [] 0 0 (lw_Z below #[Value.ref b] s) (entryFrame m ([Value.ref b] : List Value).toArray 7) := by
  obtain ⟨hx, hb, hr, hml, hown, hts, hX, hbl, hlocks, hgv⟩ := id C0
  have hbA : ¬ AL s b := Nat.not_le.mpr hbl
  obtain ⟨hE, hNC⟩ := entL hts hgv
  have hTB : ∀ w ∈ TB, w.before #[Value.ref b] s = true := fun w h => hts w (List.mem_filter.mp h).1
  have hC : CF p m c s b := ⟨hx, hb, hml, hown, fun w h => by rcases List.mem_cons.mp h with rfl | h; exact tbX hts 0 (by decide +kernel); exact hTB w h⟩
  obtain ⟨c0, j0, K0⟩ := u_known (C := RJ0) (T := TJ0) (N := 2) (n := 4) hTB iJ0 (hTB _ (tbI 555 (by decide +kernel) rfl))
  obtain ⟨c1, j1, K1⟩ := u_known (C := RJx00060) (T := TJx00060) (N := 6) (n := 6) hTB iJx00060 (hTB _ (tbI 561 (by decide +kernel) rfl))
  obtain ⟨c2, j2, K2⟩ := u_known (C := RX1) (T := TX1) (N := 5) (n := 5) hTB iX1 (hTB _ (tbI 315 (by decide +kernel) rfl))
  obtain ⟨c3, j3, K3⟩ := u_known (C := RX2) (T := TX2) (N := 12) (n := 12) hTB iX2 (hTB _ (tbI 168 (by decide +kernel) rfl))
  obtain ⟨c4, j4, K4⟩ := u_known (C := RX3) (T := TX3) (N := 0) (n := 6) hTB (fun w h => nomatch h) (hTB _ (tbI 102 (by decide +kernel) rfl))
  obtain ⟨c5, j5, K5⟩ := u_known (C := RX4) (T := TX4) (N := 3) (n := 3) hTB iX4 (hTB _ (tbI 278 (by decide +kernel) rfl))
  obtain ⟨c6, j6, K6⟩ := u_known (C := RX5) (T := TX5) (N := 3) (n := 3) hTB iX5 (hTB _ (tbI 257 (by decide +kernel) rfl))
  obtain ⟨c7, j7, K7⟩ := u_known (C := RX6) (T := TX6) (N := 9) (n := 9) hTB iX6 (hTB _ (tbI 220 (by decide +kernel) rfl))
  obtain ⟨c8, j8, K8⟩ := u_known (C := RX7) (T := TX7) (N := 16) (n := 16) hTB iX7 (hTB _ (tbI 276 (by decide +kernel) rfl))
  obtain ⟨c9, j9, K9⟩ := u_known (C := RX8) (T := TX8) (N := 2) (n := 2) hTB iX8 (hTB _ (tbI 298 (by decide +kernel) rfl))
  obtain ⟨c10, j10, K10⟩ := u_known (C := RX9) (T := TX9) (N := 5) (n := 5) hTB iX9 (hTB _ (tbI 39 (by decide +kernel) rfl))
  obtain ⟨c11, j11, K11⟩ := u_known (C := RX11) (T := TX11) (N := 7) (n := 7) hTB iX11 (hTB _ (tbI 31 (by decide +kernel) rfl))
  obtain ⟨c12, j12, K12⟩ := u_known (C := RX12) (T := TX12) (N := 56) (n := 56) hTB iX12 (hTB _ (tbI 1162 (by decide +kernel) rfl))
  obtain ⟨D, hKc⟩ : ∃ D : va_G, ∀ (k : Nat) (q : vw_C), vwCl[k]? = some q → u_Kn s q.1 q.2.1 q.2.2 (D.1 k) (D.2 k) := by
    refine ⟨(fun k => [c0, c1, c2, c3, c4, c5, c6, c7, c8, c9, c10, c11, c12].getD k c0, fun k => [j0, j1, j2, j3, j4, j5, j6, j7, j8, j9, j10, j11, j12].getD k j0), ?_⟩
    intro k q hq
    match k, hq with
    | 0, hq => cases hq; exact K0
    | 1, hq => cases hq; exact K1
    | 2, hq => cases hq; exact K2
    | 3, hq => cases hq; exact K3
    | 4, hq => cases hq; exact K4
    | 5, hq => cases hq; exact K5
    | 6, hq => cases hq; exact K6
    | 7, hq => cases hq; exact K7
    | 8, hq => cases hq; exact K8
    | 9, hq => cases hq; exact K9
    | 10, hq => cases hq; exact K10
    | 11, hq => cases hq; exact K11
    | 12, hq => cases hq; exact K12
    | k + 13, hq => cases hq
  obtain ⟨cI, kI, pI, fI, gI, hI⟩ := Cond.arrayClass_spec (hTB _ kaint)
  obtain ⟨cC, kC, pC, fC, gC, hC9⟩ := Cond.arrayClass_spec (hTB _ kachar)
  obtain ⟨cZ, kZ, pZ, fZ, gZ, hZ⟩ := Cond.arrayClass_spec (hTB _ kaboolean)
  obtain ⟨cJ, kJ, pJ, fJ, gJ, hJ⟩ := Cond.arrayClass_spec (hTB _ kalong)
  have hty : ∀ (k : Nat) (q : ClassId × FieldType), (ty4 cI cC cZ cJ)[k]? = some q → ArrOfT s q.1 q.2 ∧ va_RA s q.1 q.2 := by
    intro k q hq
    match k, hq with
    | 0, hq => cases hq; exact ⟨fun n z => ⟨fun k h => (by cases h), kI, gI, pI, hI⟩, fI⟩
    | 1, hq => cases hq; exact ⟨fun n z => ⟨fun k h => (by cases h), kC, gC, pC, hC9⟩, fC⟩
    | 2, hq => cases hq; exact ⟨fun n z => ⟨fun k h => (by cases h), kZ, gZ, pZ, hZ⟩, fZ⟩
    | 3, hq => cases hq; exact ⟨fun n z => ⟨fun k h => (by cases h), kJ, gJ, pJ, hJ⟩, fJ⟩
    | k + 4, hq => cases hq
  have hw : Wd D (ty4 cI cC cZ cJ) (AL s) s [] s.heap [] := ⟨⟨hKc, hty⟩, fun k q h => (by cases h), ⟨fun i j p q h => (by cases h), fun k q h => (by cases h)⟩, va_S.rf, fun _ h => h⟩
  have hl := lv_entry ([.ref b]) (n := 7) (Nat.le_of_ble_eq_true rfl)
  rw [lg_entry_eq]
  generalize (lg_sl ([.ref b]) ++ List.replicate (7 - (lg_sl ([.ref b])).length) Slot.unset).toArray = ls at hl ⊢
  have hl : lv_has ls 7 [(0, .ref b)] := hl
  have hB0 : FrameBlind (va_Pc [.ref b, .int 0] (fun U => va_X b L xs U U.heap ∧ b < U.heap.size)) := fun a U g mk q => ⟨q.1, q.2.1.moved (U := U.calling g mk a) (Vm.Alike.refl U.vm), q.2.2⟩
  have hB1 : ∀ (H : Heap) (locs : List Loc), va_S (AL s) s.heap H locs → ∀ U : State, U.heap = H → s.WarmedH U.vm → va_X b L xs U U.heap ∧ b < U.heap.size := fun H locs hS U hU hW => ⟨by rw [hU]; exact (hX.moved hW.alike).kept (hS.2.1 b hbl hbA), by rw [hU]; exact Nat.lt_of_lt_of_le hbl hS.1⟩
  refine nwO (ci := 11) (fs := [.null, .null, .null, .null, .null, .null, .int 0]) kwL_8 kwiX11 kwnX11 iX11 tyX11 tyX11_ok rfl (by decide) hC hw (Nat.le_of_ble_eq_true rfl) (Nat.le_of_ble_eq_true rfl) dL_law_0 (fun q0 H hw => ?_)
  have hw : Wd D (ty4 cI cC cZ cJ) (AL s) s [(q0, .inr (11, [.null, .null, .null, .null, .null, .null, .int 0]))] H [] := hw
  refine lv_dup hx hb dL_law_3 rfl ?_
  refine lv_aload_n hx hb dL_law_4 rfl (lv_at hl 0 rfl) ?_
  refine lv_iconst (v := 0) hx hb dL_law_5 (by decide) ?_
  refine cSP (As := [.ref b, .int 0]) ksL_41 hC (m_L_cell l b L xs hL) hB0 (hB1 H [] hw.2.2.2.1) rfl rfl ⟨Nat.le_of_ble_eq_true rfl, Nat.le_of_ble_eq_true rfl⟩ rfl hl.1 (Nat.le_of_ble_eq_true rfl) dL_law_6 ⟨Nat.le_of_ble_eq_true rfl, Nat.le_of_ble_eq_true rfl⟩ rfl (fun r er => ?_)
  subst er
  obtain ⟨n1, h⟩ := hinit (cell0 L xs)
  refine cIV (wr := []) kiL_47 hC hw hE (m_X11_init _ l D cI cC cZ cJ n1 q0 (cell0 L xs) h) [0] [] rfl rfl rfl rfl (by decide) rfl rfl ⟨Nat.le_of_ble_eq_true rfl, Nat.le_of_ble_eq_true rfl⟩ rfl hl.1 (Nat.le_of_ble_eq_true rfl) dL_law_9 ⟨Nat.le_of_ble_eq_true rfl, Nat.le_of_ble_eq_true rfl⟩ rfl ?_
  intro u H locs hp hw1
  obtain ⟨ad, N, G⟩ := u
  obtain ⟨e0, n2, h⟩ := hp
  simp only [] at e0 h
  subst e0
  have hw : Wd D (ty4 cI cC cZ cJ) (AL s) s (wT ad cI cC cZ cJ N G) H locs := hw1
  refine lv_astore_n (lv' := [(1, .ref (ad 0)), (0, .ref b)]) hx hb dL_law_12 rfl hl (by decide) rfl (fun ls hl => ?_)
  refine nwO (ci := 12) (fs := [.int 0, .int 0, .null, .null, .null, .null, .int 0, .null, .null, .null, .null, .null, .int 0, .null, .null, .null, .null, .int 0, .int 0, .int 0, .null, .null, .null, .int 0, .int 0, .long 0, .int 0, .int 0, .int 0, .null, .null, .null, .null, .null, .null, .null, .int 0, .int 0, .int 0, .int 0, .int 0, .int 0, .int 0, .int 0, .int 0, .int 0, .int 0, .int 0, .null, .null, .int 0, .null, .int 0, .null, .null, .int 0]) kwL_50 kwiX12 kwnX12 iX12 tyX12 tyX12_ok rfl (by decide) hC hw (Nat.le_of_ble_eq_true rfl) (Nat.le_of_ble_eq_true rfl) dL_law_13 (fun q1 H hw => ?_)
  have hw : Wd D (ty4 cI cC cZ cJ) (AL s) s (wT ad cI cC cZ cJ N G ++ [(q1, .inr (12, [.int 0, .int 0, .null, .null, .null, .null, .int 0, .null, .null, .null, .null, .null, .int 0, .null, .null, .null, .null, .int 0, .int 0, .int 0, .null, .null, .null, .int 0, .int 0, .long 0, .int 0, .int 0, .int 0, .null, .null, .null, .null, .null, .null, .null, .int 0, .int 0, .int 0, .int 0, .int 0, .int 0, .int 0, .int 0, .int 0, .int 0, .int 0, .int 0, .null, .null, .int 0, .null, .int 0, .null, .null, .int 0]))]) H locs := hw
  refine lv_dup hx hb dL_law_16 rfl ?_
  refine lv_aload_n hx hb dL_law_17 rfl (lv_at hl 1 rfl) ?_
  refine lv_iconst (v := 0) hx hb dL_law_18 (by decide) ?_
  refine cSP (As := [.ref b, .int 0]) ksL_41 hC (m_L_cell l b L xs hL) hB0 (hB1 H locs hw.2.2.2.1) rfl rfl ⟨Nat.le_of_ble_eq_true rfl, Nat.le_of_ble_eq_true rfl⟩ rfl hl.1 (Nat.le_of_ble_eq_true rfl) dL_law_19 ⟨Nat.le_of_ble_eq_true rfl, Nat.le_of_ble_eq_true rfl⟩ rfl (fun r er => ?_)
  subst er
  refine cIV (wr := wT ad cI cC cZ cJ N G) kiL_52 hC hw hE (m_X12_init _ l D cI cC cZ cJ n2 q1 (cell0 L xs) h) [29] [0, 1, 2, 3, 4, 5, 6, 7, 8, 9, 10, 11, 12, 13, 14, 15, 16, 17, 18, 19, 20, 21, 22, 23, 24, 25, 26, 27, 28] rfl rfl rfl rfl (by decide) rfl rfl ⟨Nat.le_of_ble_eq_true rfl, Nat.le_of_ble_eq_true rfl⟩ rfl hl.1 (Nat.le_of_ble_eq_true rfl) dL_law_22 ⟨Nat.le_of_ble_eq_true rfl, Nat.le_of_ble_eq_true rfl⟩ rfl ?_
  intro u H locs hp hw1
  obtain ⟨bd, g, k⟩ := u
  obtain ⟨e0, hI⟩ := hp
  simp only [] at e0 hI
  subst e0
  have hw : Wd D (ty4 cI cC cZ cJ) (AL s) s (wT ad cI cC cZ cJ N G ++ wM bd cI cC cZ cJ g k) H locs := hw1
  refine lv_astore_n (lv' := [(2, .ref (bd 0)), (1, .ref (ad 0)), (0, .ref b)]) hx hb dL_law_25 rfl hl (by decide) rfl (fun ls hl => ?_)
  refine lv_iconst (v := 1) hx hb dL_law_26 (by decide) ?_
  refine nwA (a0 := (1, .inr (.inl (fun _ => 0)))) (N' := 1) 3 kalong rfl (fun _ h => h) hC hw rfl (fun _ => rfl) (by decide) (by decide) (by decide) (Nat.le_of_ble_eq_true rfl) (Nat.le_of_ble_eq_true rfl) dL_law_27 (fun o H hw => ?_)
  have hw : Wd D (ty4 cI cC cZ cJ) (AL s) s (wLw ad bd o cI cC cZ cJ N G g k (fun _ => 0)) H locs := hw
  refine lv_astore_n (lv' := [(3, .ref o), (2, .ref (bd 0)), (1, .ref (ad 0)), (0, .ref b)]) hx hb dL_law_29 rfl hl (by decide) rfl (fun ls hl => ?_)
  refine lv_iconst (v := 1) hx hb dL_law_30 (by decide) ?_
  refine lv_istore (lv' := [(4, .int 1), (3, .ref o), (2, .ref (bd 0)), (1, .ref (ad 0)), (0, .ref b)]) hx hb dL_law_31 hl (by decide) rfl (fun ls hl => ?_)
  exact law_loop Inv hstep hL hr hlocks hC hlt hX hbl hE hNC ad bd o N 64 0 1 (by decide) rfl (by omega) G g k _ H locs ls _ _ (by decide) (by decide) hI hw (lv_sub hl [4, 3, 2, 1, 0] rfl)
end LAWS
