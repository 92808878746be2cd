theorem code_J0_toCharArray_70df3 : Cond.code yJ0_toCharArray_70df3 cJ0_toCharArray_70df3 1 (some (.array .char)) ∈ TB := tbI 48 (by decide +kernel) rfl
theorem kFX9_13 : fldF RX9 13 10 1 (.array .int) := ⟨_, _, _, rfl, iX9, Nat.le_of_ble_eq_true rfl, tbI 146 (by decide +kernel) rfl, rfl, rfl, by decide +kernel, ⟨tyX9, tyX9_ok⟩, nmX9⟩
theorem kFX9_17 : fldF RX9 17 10 2 (.array .int) := ⟨_, _, _, rfl, iX9, Nat.le_of_ble_eq_true rfl, tbI 147 (by decide +kernel) rfl, rfl, rfl, by decide +kernel, ⟨tyX9, tyX9_ok⟩, nmX9⟩
theorem kFX9_20 : fldF RX9 20 10 3 (.array .int) := ⟨_, _, _, rfl, iX9, Nat.le_of_ble_eq_true rfl, tbI 148 (by decide +kernel) rfl, rfl, rfl, by decide +kernel, ⟨tyX9, tyX9_ok⟩, nmX9⟩
theorem kFX9_9 : fldF RX9 9 10 0 (.array .char) := ⟨_, _, _, rfl, iX9, Nat.le_of_ble_eq_true rfl, tbI 145 (by decide +kernel) rfl, rfl, rfl, by decide +kernel, ⟨tyX9, tyX9_ok⟩, nmX9⟩
theorem kbX9_1 : Cond.methodLink RX9 1 objectInit ∈ TB := tbI 43 (by decide +kernel) rfl
theorem kmX9_25 : mlV RX9 25 RJ0 yJ0_toCharArray_70df3 cJ0_toCharArray_70df3 1 (some (.array .char)) 0 := mlV_mk (tbI 45 (by decide +kernel) rfl) (tbI 46 (by decide +kernel) rfl) (tbI 47 (by decide +kernel) rfl) (tbI 3 (by decide +kernel) rfl) code_J0_toCharArray_70df3 (by decide +kernel)
def V_X9_init (n : Nat) (post : St → Prop) : Prop := V_toChars n 32 (fun f0 => V_X9_add (STL.getD 32 []).length n (1 : Int32) (mx (fun _ _ => 0) 5 f0) (fun r0 g0 => V_toChars n 33 (fun f1 => V_X9_add (STL.getD 33 []).length n (2 : Int32) (mx g0 5 f1) (fun r1 g1 => V_toChars n 34 (fun f2 => V_X9_add (STL.getD 34 []).length n (5 : Int32) (mx g1 5 f2) (fun r2 g2 => V_X10_of (3 : Int32) (0 : Int32) (fun w0 => V_X9_setWord (0 : Int32) w0 g2 (fun g3 => post g3))))))))
set_option maxHeartbeats 4000000 in
set_option maxRecDepth 100000 in
theorem m_X9_init (ea : Nat → Nat → Nat) (l : Launch) (D : va_G) (cI cC cZ cJ : ClassId) (n h0 : Nat) {post : St → Prop} (h : V_X9_init n post) : MetVA ea l yX9_init cX9_init 1 { frames := 7, cells := 7, slots := 335, locals := 154 } D (ty4 cI cC cZ cJ) [(h0, .inr (10, [.null, .null, .null, .null, .int 0]))] [.ref h0] (fun u : (Nat → Nat) × St => wSy u.1 cI cC u.2) (fun u => u.1 0 = h0 ∧ post u.2) 7 335 := by
  refine mkVA (by decide) rfl (Nat.le_of_ble_eq_true rfl) ?_
  intro p e s m args below meth c A ls hC hr hlk hinit hw hE hl
  have hx := hC.1
  have hb := hC.2.1
  have hl : lv_has ls 1 [(0, .ref h0)] := hl
  unfold V_X9_init at h
  refine lv_aload_n hx hb dX9_init_0 rfl (lv_at hl 0 rfl) ?_
  refine objI kbX9_1 hC hl.1 dX9_init_1 (Nat.le_of_ble_eq_true rfl) (Nat.le_of_ble_eq_true rfl) ?_
  refine lv_aload_n hx hb dX9_init_4 rfl (lv_at hl 0 rfl) ?_
  refine lv_sipush (v := (200 : Int32)) hx hb dX9_init_5 (by decide) ?_
  refine nwA (a0 := (200, .inl (fun _ => 0))) (N' := 200) 1 kachar rfl (fun _ h => h) hC hw rfl (fun _ => rfl) (by decide) (by decide) (by decide) (Nat.le_of_ble_eq_true rfl) (Nat.le_of_ble_eq_true rfl) dX9_init_8 (fun q1 H hw => ?_)
  have hw : Wd D (ty4 cI cC cZ cJ) A s [(h0, .inr (10, [.null, .null, .null, .null, .int 0])), (q1, .inl (cC, 200, .inl (fun _ => 0)))] _ _ := hw
  refine ptF (ws' := [(h0, .inr (10, [.ref q1, .null, .null, .null, .int 0])), (q1, .inl (cC, 200, .inl (fun _ => 0)))]) kFX9_9 hinit 0 hC hw rfl rfl rfl (Nat.le_of_ble_eq_true rfl) rfl dX9_init_10 (fun H locs hw => ?_)
  refine lv_aload_n hx hb dX9_init_13 rfl (lv_at hl 0 rfl) ?_
  refine lv_bipush (v := (40 : Int32)) hx hb dX9_init_14 (by decide) ?_
  refine nwA (a0 := (40, .inl (fun _ => 0))) (N' := 40) 0 kaint rfl (fun _ h => h) hC hw rfl (fun _ => rfl) (by decide) (by decide) (by decide) (Nat.le_of_ble_eq_true rfl) (Nat.le_of_ble_eq_true rfl) dX9_init_16 (fun q2 H hw => ?_)
  have hw : Wd D (ty4 cI cC cZ cJ) A s [(h0, .inr (10, [.ref q1, .null, .null, .null, .int 0])), (q1, .inl (cC, 200, .inl (fun _ => 0))), (q2, .inl (cI, 40, .inl (fun _ => 0)))] _ _ := hw
  refine ptF (ws' := [(h0, .inr (10, [.ref q1, .ref q2, .null, .null, .int 0])), (q1, .inl (cC, 200, .inl (fun _ => 0))), (q2, .inl (cI, 40, .inl (fun _ => 0)))]) kFX9_13 hinit 0 hC hw rfl rfl rfl (Nat.le_of_ble_eq_true rfl) rfl dX9_init_18 (fun H locs hw => ?_)
  refine lv_aload_n hx hb dX9_init_21 rfl (lv_at hl 0 rfl) ?_
  refine lv_bipush (v := (40 : Int32)) hx hb dX9_init_22 (by decide) ?_
  refine nwA (a0 := (40, .inl (fun _ => 0))) (N' := 40) 0 kaint rfl (fun _ h => h) hC hw rfl (fun _ => rfl) (by decide) (by decide) (by decide) (Nat.le_of_ble_eq_true rfl) (Nat.le_of_ble_eq_true rfl) dX9_init_24 (fun q3 H hw => ?_)
  have hw : Wd D (ty4 cI cC cZ cJ) A s [(h0, .inr (10, [.ref q1, .ref q2, .null, .null, .int 0])), (q1, .inl (cC, 200, .inl (fun _ => 0))), (q2, .inl (cI, 40, .inl (fun _ => 0))), (q3, .inl (cI, 40, .inl (fun _ => 0)))] _ _ := hw
  refine ptF (ws' := [(h0, .inr (10, [.ref q1, .ref q2, .ref q3, .null, .int 0])), (q1, .inl (cC, 200, .inl (fun _ => 0))), (q2, .inl (cI, 40, .inl (fun _ => 0))), (q3, .inl (cI, 40, .inl (fun _ => 0)))]) kFX9_17 hinit 0 hC hw rfl rfl rfl (Nat.le_of_ble_eq_true rfl) rfl dX9_init_26 (fun H locs hw => ?_)
  refine lv_aload_n hx hb dX9_init_29 rfl (lv_at hl 0 rfl) ?_
  refine lv_bipush (v := (40 : Int32)) hx hb dX9_init_30 (by decide) ?_
  refine nwA (a0 := (40, .inl (fun _ => 0))) (N' := 40) 0 kaint rfl (fun _ h => h) hC hw rfl (fun _ => rfl) (by decide) (by decide) (by decide) (Nat.le_of_ble_eq_true rfl) (Nat.le_of_ble_eq_true rfl) dX9_init_32 (fun q4 H hw => ?_)
  have hw : Wd D (ty4 cI cC cZ cJ) A s [(h0, .inr (10, [.ref q1, .ref q2, .ref q3, .null, .int 0])), (q1, .inl (cC, 200, .inl (fun _ => 0))), (q2, .inl (cI, 40, .inl (fun _ => 0))), (q3, .inl (cI, 40, .inl (fun _ => 0))), (q4, .inl (cI, 40, .inl (fun _ => 0)))] _ _ := hw
  refine ptF (ws' := [(h0, .inr (10, [.ref q1, .ref q2, .ref q3, .ref q4, .int 0])), (q1, .inl (cC, 200, .inl (fun _ => 0))), (q2, .inl (cI, 40, .inl (fun _ => 0))), (q3, .inl (cI, 40, .inl (fun _ => 0))), (q4, .inl (cI, 40, .inl (fun _ => 0)))]) kFX9_20 hinit 0 hC hw rfl rfl rfl (Nat.le_of_ble_eq_true rfl) rfl dX9_init_34 (fun H locs hw => ?_)
  have hw : Wd D (ty4 cI cC cZ cJ) A s (wSy (fun j => [h0, q1, q2, q3, q4].getD j 0) cI cC (fun _ _ => 0)) _ _ := hw
  obtain ⟨ad, had⟩ : ∃ z, z = (fun j => [h0, q1, q2, q3, q4].getD j 0) := ⟨_, rfl⟩
  have ha0 : ad 0 = h0 := by rw [had]; rfl
  rw [← had] at hw
  rw [← ha0] at hl ⊢
  refine lv_aload_n hx hb dX9_init_37 rfl (lv_at hl 0 rfl) ?_
  refine va_ldcS hx hb hC.2.2.2.1 hE.2.2.2.2.2.2.2.2.1.1 dX9_init_38 ?_
  refine cVRA kmX9_25 hC hw hE (m_J0_toCharArray_70df3 ea l D cI cC cZ cJ n 32 h) rfl rfl ⟨by decide, by decide⟩ (va_Orecv (hE.2.2.2.2.2.2.2.1 32 (by decide)).1 hw.2.2.2.1) rfl hl.1 (Nat.le_of_ble_eq_true rfl) dX9_init_40 ⟨Nat.le_of_ble_eq_true rfl, Nat.le_of_ble_eq_true rfl⟩ rfl ?_
  intro f0 q H locs h hw
  refine lv_iconst (v := (1 : Int32)) hx hb dX9_init_43 (by decide) ?_
  refine cVIe (wc := wSyN ad q cI cC (STL.getD 32 []).length (mx (fun _ _ => 0) 5 f0)) (wf := fun u => wSyN ad q cI cC (STL.getD 32 []).length u) (wn := fun u => wSy ad cI cC u) (wr := []) kmX9_31 hC hw hE (m_X9_add l D cI cC cZ cJ ad q (STL.getD 32 []).length ea n (1 : Int32) (mx (fun _ _ => 0) 5 f0) h) [0, 1, 2, 3, 4, 5] [] [0, 1, 2, 3, 4] rfl rfl rfl rfl (by decide) rfl (fun _ => rfl) rfl rfl ⟨by decide, by decide⟩ (recvW hw rfl 0 rfl) rfl hl.1 (Nat.le_of_ble_eq_true rfl) dX9_init_44 ⟨Nat.le_of_ble_eq_true rfl, Nat.le_of_ble_eq_true rfl⟩ rfl ?_
  intro r0 g0 H locs h hw
  refine lv_pop hx hb dX9_init_47 rfl ?_
  refine lv_aload_n hx hb dX9_init_48 rfl (lv_at hl 0 rfl) ?_
  refine va_ldcS hx hb hC.2.2.2.1 hE.2.2.2.2.2.2.2.2.1.2.1 dX9_init_49 ?_
  refine cVRA kmX9_25 hC hw hE (m_J0_toCharArray_70df3 ea l D cI cC cZ cJ n 33 h) rfl rfl ⟨by decide, by decide⟩ (va_Orecv (hE.2.2.2.2.2.2.2.1 33 (by decide)).1 hw.2.2.2.1) rfl hl.1 (Nat.le_of_ble_eq_true rfl) dX9_init_51 ⟨Nat.le_of_ble_eq_true rfl, Nat.le_of_ble_eq_true rfl⟩ rfl ?_
  intro f1 q H locs h hw
  refine lv_iconst (v := (2 : Int32)) hx hb dX9_init_54 (by decide) ?_
  refine cVIe (wc := wSyN ad q cI cC (STL.getD 33 []).length (mx g0 5 f1)) (wf := fun u => wSyN ad q cI cC (STL.getD 33 []).length u) (wn := fun u => wSy ad cI cC u) (wr := []) kmX9_31 hC hw hE (m_X9_add l D cI cC cZ cJ ad q (STL.getD 33 []).length ea n (2 : Int32) (mx g0 5 f1) h) [0, 1, 2, 3, 4, 5] [] [0, 1, 2, 3, 4] rfl rfl rfl rfl (by decide) rfl (fun _ => rfl) rfl rfl ⟨by decide, by decide⟩ (recvW hw rfl 0 rfl) rfl hl.1 (Nat.le_of_ble_eq_true rfl) dX9_init_55 ⟨Nat.le_of_ble_eq_true rfl, Nat.le_of_ble_eq_true rfl⟩ rfl ?_
  intro r1 g1 H locs h hw
  refine lv_pop hx hb dX9_init_58 rfl ?_
  refine lv_aload_n hx hb dX9_init_59 rfl (lv_at hl 0 rfl) ?_
  refine va_ldcS hx hb hC.2.2.2.1 hE.2.2.2.2.2.2.2.2.1.2.2.1 dX9_init_60 ?_
  refine cVRA kmX9_25 hC hw hE (m_J0_toCharArray_70df3 ea l D cI cC cZ cJ n 34 h) rfl rfl ⟨by decide, by decide⟩ (va_Orecv (hE.2.2.2.2.2.2.2.1 34 (by decide)).1 hw.2.2.2.1) rfl hl.1 (Nat.le_of_ble_eq_true rfl) dX9_init_62 ⟨Nat.le_of_ble_eq_true rfl, Nat.le_of_ble_eq_true rfl⟩ rfl ?_
  intro f2 q H locs h hw
  refine lv_iconst (v := (5 : Int32)) hx hb dX9_init_65 (by decide) ?_
  refine cVIe (wc := wSyN ad q cI cC (STL.getD 34 []).length (mx g1 5 f2)) (wf := fun u => wSyN ad q cI cC (STL.getD 34 []).length u) (wn := fun u => wSy ad cI cC u) (wr := []) kmX9_31 hC hw hE (m_X9_add l D cI cC cZ cJ ad q (STL.getD 34 []).length ea n (5 : Int32) (mx g1 5 f2) h) [0, 1, 2, 3, 4, 5] [] [0, 1, 2, 3, 4] rfl rfl rfl rfl (by decide) rfl (fun _ => rfl) rfl rfl ⟨by decide, by decide⟩ (recvW hw rfl 0 rfl) rfl hl.1 (Nat.le_of_ble_eq_true rfl) dX9_init_66 ⟨Nat.le_of_ble_eq_true rfl, Nat.le_of_ble_eq_true rfl⟩ rfl ?_
  intro r2 g2 H locs h hw
  refine lv_pop hx hb dX9_init_69 rfl ?_
  refine lv_aload_n hx hb dX9_init_70 rfl (lv_at hl 0 rfl) ?_
  refine lv_iconst (v := (0 : Int32)) hx hb dX9_init_71 (by decide) ?_
  refine lv_iconst (v := (3 : Int32)) hx hb dX9_init_72 (by decide) ?_
  refine lv_iconst (v := (0 : Int32)) hx hb dX9_init_73 (by decide) ?_
  refine cSI ksX9_41 hC (m_X10_of l (3 : Int32) (0 : Int32) h) rfl rfl ⟨by decide, by decide⟩ rfl hl.1 (Nat.le_of_ble_eq_true rfl) dX9_init_74 ⟨Nat.le_of_ble_eq_true rfl, Nat.le_of_ble_eq_true rfl⟩ rfl ?_
  intro w0 h
  refine cVVw (q0 := 0) kmX9_45 hC hw (m_X9_setWord l D cI cC cZ cJ ad (0 : Int32) w0 g2 h) rfl rfl ⟨by decide, by decide⟩ rfl rfl rfl hl.1 (Nat.le_of_ble_eq_true rfl) dX9_init_77 ⟨Nat.le_of_ble_eq_true rfl, Nat.le_of_ble_eq_true rfl⟩ rfl ?_
  intro g3 H locs h hw
  exact rtVA (wf := (fun u : (Nat → Nat) × St => wSy u.1 cI cC u.2)) (ad, g3) hC hr hlk hw ⟨rfl, h⟩ (Nat.le_of_ble_eq_true rfl) (Nat.le_of_ble_eq_true rfl) dX9_init_80
