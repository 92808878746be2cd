set_option maxHeartbeats 4000000 in
set_option maxRecDepth 100000 in
theorem m_X8_init (ea : Nat → Nat → Nat) (l : Launch) (D : va_G) (cI cC cZ cJ : ClassId) (h0 k : Nat) (hk : k ≤ 10000) : MetVA ea l yX8_init cX8_init 2 { frames := 1, cells := 1, slots := k, locals := 21 } D (ty4 cI cC cZ cJ) [(h0, .inr (9, [.null, .int 0]))] [.ref h0, .int (nI k)] (fun u : Nat => [(h0, .inr (9, [.ref u, .int 0])), (u, .inl (cI, k, .inl (fun _ => 0)))]) (fun _ => True) 1 k := by
  refine mkVA (by decide) rfl (Nat.le_of_ble_eq_true rfl) ?_
  intro p e s m args below meth c A ls hC hr hlk hinit hw hE hl
  have hx := hC.1
  have hb := hC.2.1
  have hl : lv_has ls 2 [(0, .ref h0), (1, .int (nI k))] := hl
  refine lv_aload_n hx hb dX8_init_0 rfl (lv_at hl 0 rfl) ?_
  refine objI kbX8_1 hC hl.1 dX8_init_1 (Nat.le_of_ble_eq_true rfl) (Nat.le_of_ble_eq_true rfl) ?_
  refine lv_aload_n hx hb dX8_init_4 rfl (lv_at hl 0 rfl) ?_
  refine lv_iload_n hx hb dX8_init_5 rfl (lv_at hl 1 rfl) ?_
  refine lv_iconst (v := (0 : Int32)) hx hb dX8_init_6 (by decide) ?_
  refine va_mmax hx hb (hC.2.2.1.trans hl.1.symm) hC.2.2.2.1 (hC.2.2.2.2 _ (List.mem_cons_of_mem _ kMX8_7)) (hC.2.2.2.2 _ (List.mem_cons_of_mem _ kMs_max)) (hC.2.2.2.2 _ (List.mem_cons_of_mem _ kMi)) (hC.2.2.2.2 _ (List.mem_cons_of_mem _ kMc_max)) (Nat.le_of_ble_eq_true rfl) (Nat.le_of_ble_eq_true rfl) (Nat.zero_le _) (Nat.zero_le _) dX8_init_7 ?_
  rw [show (if nI k < 0 then (0 : Int32) else nI k) = nI k from if_neg (nI_pos (by omega))]
  refine nwA (a0 := (k, .inl (fun _ => 0))) (N' := k) 0 kaint rfl (fun _ h => h) hC hw rfl (fun _ => rfl) (nI_pos (by omega)) (nI_clamp (by omega)) (show k * 4 ≤ 536870912 by omega) (Nat.le_of_ble_eq_true rfl) (show 0 + k ≤ k by omega) dX8_init_10 (fun q1 H hw => ?_)
  have hw : Wd D (ty4 cI cC cZ cJ) A s [(h0, .inr (9, [.null, .int 0])), (q1, .inl (cI, k, .inl (fun _ => 0)))] _ _ := hw
  refine ptF (ws' := [(h0, .inr (9, [.ref q1, .int 0])), (q1, .inl (cI, k, .inl (fun _ => 0)))]) kFX8_13 hinit 0 hC hw rfl rfl rfl (Nat.le_of_ble_eq_true rfl) rfl dX8_init_12 (fun H locs hw => ?_)
  exact rtVA (wf := (fun u : Nat => [(h0, .inr (9, [.ref u, .int 0])), (u, .inl (cI, k, .inl (fun _ => 0)))])) q1 hC hr hlk hw trivial (Nat.le_refl _) (by omega) dX8_init_15
set_option maxHeartbeats 4000000 in
set_option maxRecDepth 100000 in
theorem m_X5_init (ea : Nat → Nat → Nat) (l : Launch) (D : va_G) (cI cC cZ cJ : ClassId) (h0 k : Nat) (hk : k ≤ 10000) : MetVA ea l yX5_init cX5_init 2 { frames := 1, cells := 1, slots := k, locals := 21 } D (ty4 cI cC cZ cJ) [(h0, .inr (6, [.null, .int 0, .int 0]))] [.ref h0, .int (nI k)] (fun u : Nat => [(h0, .inr (6, [.ref u, .int 0, .int 0])), (u, .inl (cI, k, .inl (fun _ => 0)))]) (fun _ => True) 1 k := by
  refine mkVA (by decide) rfl (Nat.le_of_ble_eq_true rfl) ?_
  intro p e s m args below meth c A ls hC hr hlk hinit hw hE hl
  have hx := hC.1
  have hb := hC.2.1
  have hl : lv_has ls 2 [(0, .ref h0), (1, .int (nI k))] := hl
  refine lv_aload_n hx hb dX5_init_0 rfl (lv_at hl 0 rfl) ?_
  refine objI kbX5_1 hC hl.1 dX5_init_1 (Nat.le_of_ble_eq_true rfl) (Nat.le_of_ble_eq_true rfl) ?_
  refine lv_aload_n hx hb dX5_init_4 rfl (lv_at hl 0 rfl) ?_
  refine lv_iload_n hx hb dX5_init_5 rfl (lv_at hl 1 rfl) ?_
  refine lv_iconst (v := (0 : Int32)) hx hb dX5_init_6 (by decide) ?_
  refine va_mmax hx hb (hC.2.2.1.trans hl.1.symm) hC.2.2.2.1 (hC.2.2.2.2 _ (List.mem_cons_of_mem _ kMX5_7)) (hC.2.2.2.2 _ (List.mem_cons_of_mem _ kMs_max)) (hC.2.2.2.2 _ (List.mem_cons_of_mem _ kMi)) (hC.2.2.2.2 _ (List.mem_cons_of_mem _ kMc_max)) (Nat.le_of_ble_eq_true rfl) (Nat.le_of_ble_eq_true rfl) (Nat.zero_le _) (Nat.zero_le _) dX5_init_7 ?_
  rw [show (if nI k < 0 then (0 : Int32) else nI k) = nI k from if_neg (nI_pos (by omega))]
  refine nwA (a0 := (k, .inl (fun _ => 0))) (N' := k) 0 kaint rfl (fun _ h => h) hC hw rfl (fun _ => rfl) (nI_pos (by omega)) (nI_clamp (by omega)) (show k * 4 ≤ 536870912 by omega) (Nat.le_of_ble_eq_true rfl) (show 0 + k ≤ k by omega) dX5_init_10 (fun q1 H hw => ?_)
  have hw : Wd D (ty4 cI cC cZ cJ) A s [(h0, .inr (6, [.null, .int 0, .int 0])), (q1, .inl (cI, k, .inl (fun _ => 0)))] _ _ := hw
  refine ptF (ws' := [(h0, .inr (6, [.ref q1, .int 0, .int 0])), (q1, .inl (cI, k, .inl (fun _ => 0)))]) kFX5_13 hinit 0 hC hw rfl rfl rfl (Nat.le_of_ble_eq_true rfl) rfl dX5_init_12 (fun H locs hw => ?_)
  exact rtVA (wf := (fun u : Nat => [(h0, .inr (6, [.ref u, .int 0, .int 0])), (u, .inl (cI, k, .inl (fun _ => 0)))])) q1 hC hr hlk hw trivial (Nat.le_refl _) (by omega) dX5_init_15
set_option maxHeartbeats 4000000 in
set_option maxRecDepth 100000 in
theorem m_X2_init (ea : Nat → Nat → Nat) (l : Launch) (D : va_G) (cI cC cZ cJ : ClassId) (h0 k : Nat) (hk : k ≤ 10000) : MetVA ea l yX2_init cX2_init 2 { frames := 1, cells := 1, slots := 2048 + 2 * k, locals := 21 } D (ty4 cI cC cZ cJ) [(h0, .inr (3, [.null, .int 0, .int 0, .int 0, .int 0, .int 0, .int 0, .int 0, .int 0, .int 0, .int 0, .int 0]))] [.ref h0, .int (nI k)] (fun u : Nat => [(h0, .inr (3, [.ref u, .int (nI k), .int 0, .int 0, .int (2048 : Int32), .int 0, .int (2048 : Int32), .int 0, .int 0, .int 0, .int 0, .int 0])), (u, .inl (cI, (2048 + 2 * k), .inl (fun _ => 0)))]) (fun _ => True) 1 (2048 + 2 * k) := by
  refine mkVA (by decide) rfl (Nat.le_of_ble_eq_true rfl) ?_
  intro p e s m args below meth c A ls hC hr hlk hinit hw hE hl
  have hx := hC.1
  have hb := hC.2.1
  have hl : lv_has ls 2 [(0, .ref h0), (1, .int (nI k))] := hl
  refine lv_aload_n hx hb dX2_init_0 rfl (lv_at hl 0 rfl) ?_
  refine objI kbX2_3 hC hl.1 dX2_init_1 (Nat.le_of_ble_eq_true rfl) (Nat.le_of_ble_eq_true rfl) ?_
  refine lv_aload_n hx hb dX2_init_4 rfl (lv_at hl 0 rfl) ?_
  refine lv_sipush (v := (2048 : Int32)) hx hb dX2_init_5 (by decide) ?_
  refine pt (ws' := [(h0, .inr (3, [.null, .int 0, .int 0, .int 0, .int (2048 : Int32), .int 0, .int 0, .int 0, .int 0, .int 0, .int 0, .int 0]))]) kpX2_11 0 hC hw rfl rfl rfl (Nat.le_of_ble_eq_true rfl) rfl dX2_init_8 (fun H locs hw => ?_)
  refine lv_aload_n hx hb dX2_init_11 rfl (lv_at hl 0 rfl) ?_
  refine lv_sipush (v := (2048 : Int32)) hx hb dX2_init_12 (by decide) ?_
  refine pt (ws' := [(h0, .inr (3, [.null, .int 0, .int 0, .int 0, .int (2048 : Int32), .int 0, .int (2048 : Int32), .int 0, .int 0, .int 0, .int 0, .int 0]))]) kpX2_15 0 hC hw rfl rfl rfl (Nat.le_of_ble_eq_true rfl) rfl dX2_init_15 (fun H locs hw => ?_)
  refine lv_aload_n hx hb dX2_init_18 rfl (lv_at hl 0 rfl) ?_
  refine lv_iload_n hx hb dX2_init_19 rfl (lv_at hl 1 rfl) ?_
  refine lv_iconst (v := (0 : Int32)) hx hb dX2_init_20 (by decide) ?_
  refine va_mmax hx hb (hC.2.2.1.trans hl.1.symm) hC.2.2.2.1 (hC.2.2.2.2 _ (List.mem_cons_of_mem _ kMX2_18)) (hC.2.2.2.2 _ (List.mem_cons_of_mem _ kMs_max)) (hC.2.2.2.2 _ (List.mem_cons_of_mem _ kMi)) (hC.2.2.2.2 _ (List.mem_cons_of_mem _ kMc_max)) (Nat.le_of_ble_eq_true rfl) (Nat.le_of_ble_eq_true rfl) (Nat.zero_le _) (Nat.zero_le _) dX2_init_21 ?_
  rw [show (if nI k < 0 then (0 : Int32) else nI k) = nI k from if_neg (nI_pos (by omega))]
  refine ptF (ws' := [(h0, .inr (3, [.null, .int (nI k), .int 0, .int 0, .int (2048 : Int32), .int 0, .int (2048 : Int32), .int 0, .int 0, .int 0, .int 0, .int 0]))]) kFX2_24 hinit 0 hC hw rfl rfl rfl (Nat.le_of_ble_eq_true rfl) rfl dX2_init_24 (fun H locs hw => ?_)
  refine lv_aload_n hx hb dX2_init_27 rfl (lv_at hl 0 rfl) ?_
  refine lv_sipush (v := (2048 : Int32)) hx hb dX2_init_28 (by decide) ?_
  refine lv_iconst (v := (2 : Int32)) hx hb dX2_init_31 (by decide) ?_
  refine lv_aload_n hx hb dX2_init_32 rfl (lv_at hl 0 rfl) ?_
  refine gt (v := .int (nI k)) kfX2_24 0 hC hw rfl rfl dX2_init_33 ?_
  refine lv_imul hx hb dX2_init_36 ?_
  refine lv_iadd hx hb dX2_init_37 ?_
  rw [show ((2048 : Int32) + ((2 : Int32) * (nI k))) = nI (2048 + 2 * k) by rw [← nI_add, ← pk_mul]; rfl]
  refine nwA (a0 := ((2048 + 2 * k), .inl (fun _ => 0))) (N' := (2048 + 2 * k)) 0 kaint rfl (fun _ h => h) hC hw rfl (fun _ => rfl) (nI_pos (by omega)) (nI_clamp (by omega)) (show (2048 + 2 * k) * 4 ≤ 536870912 by omega) (Nat.le_of_ble_eq_true rfl) (show 0 + (2048 + 2 * k) ≤ 2048 + 2 * k by omega) dX2_init_38 (fun q1 H hw => ?_)
  have hw : Wd D (ty4 cI cC cZ cJ) A s [(h0, .inr (3, [.null, .int (nI k), .int 0, .int 0, .int (2048 : Int32), .int 0, .int (2048 : Int32), .int 0, .int 0, .int 0, .int 0, .int 0])), (q1, .inl (cI, (2048 + 2 * k), .inl (fun _ => 0)))] _ _ := hw
  refine ptF (ws' := [(h0, .inr (3, [.ref q1, .int (nI k), .int 0, .int 0, .int (2048 : Int32), .int 0, .int (2048 : Int32), .int 0, .int 0, .int 0, .int 0, .int 0])), (q1, .inl (cI, (2048 + 2 * k), .inl (fun _ => 0)))]) kFX2_27 hinit 0 hC hw rfl rfl rfl (Nat.le_of_ble_eq_true rfl) rfl dX2_init_40 (fun H locs hw => ?_)
  exact rtVA (wf := (fun u : Nat => [(h0, .inr (3, [.ref u, .int (nI k), .int 0, .int 0, .int (2048 : Int32), .int 0, .int (2048 : Int32), .int 0, .int 0, .int 0, .int 0, .int 0])), (u, .inl (cI, (2048 + 2 * k), .inl (fun _ => 0)))])) q1 hC hr hlk hw trivial (Nat.le_refl _) (by omega) dX2_init_43
set_option maxHeartbeats 4000000 in
set_option maxRecDepth 100000 in
theorem m_X6_init (ea : Nat → Nat → Nat) (l : Launch) (D : va_G) (cI cC cZ cJ : ClassId) (h0 hp sy : Nat) : MetVA ea l yX6_init cX6_init 3 { frames := 1, cells := 4, slots := 548, locals := 21 } D (ty4 cI cC cZ cJ) [(h0, .inr (7, [.null, .null, .null, .int 0, .null, .null, .null, .int 0, .int 0]))] [.ref h0, .ref hp, .ref sy] (fun u : (Nat → Nat) => [(h0, .inr (7, [.ref hp, .ref sy, .ref (u 0), .int 0, .ref (u 1), .ref (u 2), .ref (u 3), .int 0, .int (1 : Int32)])), ((u 0), .inl (cC, 512, .inl (fun _ => 0))), ((u 1), .inl (cZ, 12, .inl (fun _ => 0))), ((u 2), .inl (cI, 12, .inl (fun _ => 0))), ((u 3), .inl (cI, 12, .inl (fun _ => 0)))]) (fun _ => True) 4 548 := by
  refine mkVA (by decide) rfl (Nat.le_of_ble_eq_true rfl) ?_
  intro p e s m args below meth c A ls hC hr hlk hinit hw hE hl
  have hx := hC.1
  have hb := hC.2.1
  have hl : lv_has ls 3 [(0, .ref h0), (1, .ref hp), (2, .ref sy)] := hl
  refine lv_aload_n hx hb dX6_init_0 rfl (lv_at hl 0 rfl) ?_
  refine objI kbX6_3 hC hl.1 dX6_init_1 (Nat.le_of_ble_eq_true rfl) (Nat.le_of_ble_eq_true rfl) ?_
  refine lv_aload_n hx hb dX6_init_4 rfl (lv_at hl 0 rfl) ?_
  refine lv_sipush (v := (512 : Int32)) hx hb dX6_init_5 (by decide) ?_
  refine nwA (a0 := (512, .inl (fun _ => 0))) (N' := 512) 1 kachar rfl (fun _ h => h) hC hw rfl (fun _ => rfl) (by decide) (by decide) (by decide) (Nat.le_of_ble_eq_true rfl) (Nat.le_of_ble_eq_true rfl) dX6_init_8 (fun q1 H hw => ?_)
  have hw : Wd D (ty4 cI cC cZ cJ) A s [(h0, .inr (7, [.null, .null, .null, .int 0, .null, .null, .null, .int 0, .int 0])), (q1, .inl (cC, 512, .inl (fun _ => 0)))] _ _ := hw
  refine ptF (ws' := [(h0, .inr (7, [.null, .null, .ref q1, .int 0, .null, .null, .null, .int 0, .int 0])), (q1, .inl (cC, 512, .inl (fun _ => 0)))]) kFX6_9 hinit 0 hC hw rfl rfl rfl (Nat.le_of_ble_eq_true rfl) rfl dX6_init_10 (fun H locs hw => ?_)
  refine lv_aload_n hx hb dX6_init_13 rfl (lv_at hl 0 rfl) ?_
  refine lv_bipush (v := (12 : Int32)) hx hb dX6_init_14 (by decide) ?_
  refine nwA (a0 := (12, .inl (fun _ => 0))) (N' := 12) 2 kaboolean rfl (fun _ h => h) hC hw rfl (fun _ => rfl) (by decide) (by decide) (by decide) (Nat.le_of_ble_eq_true rfl) (Nat.le_of_ble_eq_true rfl) dX6_init_16 (fun q2 H hw => ?_)
  have hw : Wd D (ty4 cI cC cZ cJ) A s [(h0, .inr (7, [.null, .null, .ref q1, .int 0, .null, .null, .null, .int 0, .int 0])), (q1, .inl (cC, 512, .inl (fun _ => 0))), (q2, .inl (cZ, 12, .inl (fun _ => 0)))] _ _ := hw
  refine ptF (ws' := [(h0, .inr (7, [.null, .null, .ref q1, .int 0, .ref q2, .null, .null, .int 0, .int 0])), (q1, .inl (cC, 512, .inl (fun _ => 0))), (q2, .inl (cZ, 12, .inl (fun _ => 0)))]) kFX6_15 hinit 0 hC hw rfl rfl rfl (Nat.le_of_ble_eq_true rfl) rfl dX6_init_18 (fun H locs hw => ?_)
  refine lv_aload_n hx hb dX6_init_21 rfl (lv_at hl 0 rfl) ?_
  refine lv_bipush (v := (12 : Int32)) hx hb dX6_init_22 (by decide) ?_
  refine nwA (a0 := (12, .inl (fun _ => 0))) (N' := 12) 0 kaint rfl (fun _ h => h) hC hw rfl (fun _ => rfl) (by decide) (by decide) (by decide) (Nat.le_of_ble_eq_true rfl) (Nat.le_of_ble_eq_true rfl) dX6_init_24 (fun q3 H hw => ?_)
  have hw : Wd D (ty4 cI cC cZ cJ) A s [(h0, .inr (7, [.null, .null, .ref q1, .int 0, .ref q2, .null, .null, .int 0, .int 0])), (q1, .inl (cC, 512, .inl (fun _ => 0))), (q2, .inl (cZ, 12, .inl (fun _ => 0))), (q3, .inl (cI, 12, .inl (fun _ => 0)))] _ _ := hw
  refine ptF (ws' := [(h0, .inr (7, [.null, .null, .ref q1, .int 0, .ref q2, .ref q3, .null, .int 0, .int 0])), (q1, .inl (cC, 512, .inl (fun _ => 0))), (q2, .inl (cZ, 12, .inl (fun _ => 0))), (q3, .inl (cI, 12, .inl (fun _ => 0)))]) kFX6_19 hinit 0 hC hw rfl rfl rfl (Nat.le_of_ble_eq_true rfl) rfl dX6_init_26 (fun H locs hw => ?_)
  refine lv_aload_n hx hb dX6_init_29 rfl (lv_at hl 0 rfl) ?_
  refine lv_bipush (v := (12 : Int32)) hx hb dX6_init_30 (by decide) ?_
  refine nwA (a0 := (12, .inl (fun _ => 0))) (N' := 12) 0 kaint rfl (fun _ h => h) hC hw rfl (fun _ => rfl) (by decide) (by decide) (by decide) (Nat.le_of_ble_eq_true rfl) (Nat.le_of_ble_eq_true rfl) dX6_init_32 (fun q4 H hw => ?_)
  have hw : Wd D (ty4 cI cC cZ cJ) A s [(h0, .inr (7, [.null, .null, .ref q1, .int 0, .ref q2, .ref q3, .null, .int 0, .int 0])), (q1, .inl (cC, 512, .inl (fun _ => 0))), (q2, .inl (cZ, 12, .inl (fun _ => 0))), (q3, .inl (cI, 12, .inl (fun _ => 0))), (q4, .inl (cI, 12, .inl (fun _ => 0)))] _ _ := hw
  refine ptF (ws' := [(h0, .inr (7, [.null, .null, .ref q1, .int 0, .ref q2, .ref q3, .ref q4, .int 0, .int 0])), (q1, .inl (cC, 512, .inl (fun _ => 0))), (q2, .inl (cZ, 12, .inl (fun _ => 0))), (q3, .inl (cI, 12, .inl (fun _ => 0))), (q4, .inl (cI, 12, .inl (fun _ => 0)))]) kFX6_23 hinit 0 hC hw rfl rfl rfl (Nat.le_of_ble_eq_true rfl) rfl dX6_init_34 (fun H locs hw => ?_)
  refine lv_aload_n hx hb dX6_init_37 rfl (lv_at hl 0 rfl) ?_
  refine lv_iconst (v := (1 : Int32)) hx hb dX6_init_38 (by decide) ?_
  refine pt (ws' := [(h0, .inr (7, [.null, .null, .ref q1, .int 0, .ref q2, .ref q3, .ref q4, .int 0, .int (1 : Int32)])), (q1, .inl (cC, 512, .inl (fun _ => 0))), (q2, .inl (cZ, 12, .inl (fun _ => 0))), (q3, .inl (cI, 12, .inl (fun _ => 0))), (q4, .inl (cI, 12, .inl (fun _ => 0)))]) kpX6_28 0 hC hw rfl rfl rfl (Nat.le_of_ble_eq_true rfl) rfl dX6_init_39 (fun H locs hw => ?_)
  refine lv_aload_n hx hb dX6_init_42 rfl (lv_at hl 0 rfl) ?_
  refine lv_aload_n hx hb dX6_init_43 rfl (lv_at hl 1 rfl) ?_
  refine ptF (ws' := [(h0, .inr (7, [.ref hp, .null, .ref q1, .int 0, .ref q2, .ref q3, .ref q4, .int 0, .int (1 : Int32)])), (q1, .inl (cC, 512, .inl (fun _ => 0))), (q2, .inl (cZ, 12, .inl (fun _ => 0))), (q3, .inl (cI, 12, .inl (fun _ => 0))), (q4, .inl (cI, 12, .inl (fun _ => 0)))]) kFX6_32 hinit 0 hC hw rfl rfl rfl (Nat.le_of_ble_eq_true rfl) rfl dX6_init_44 (fun H locs hw => ?_)
  refine lv_aload_n hx hb dX6_init_47 rfl (lv_at hl 0 rfl) ?_
  refine lv_aload_n hx hb dX6_init_48 rfl (lv_at hl 2 rfl) ?_
  refine ptF (ws' := [(h0, .inr (7, [.ref hp, .ref sy, .ref q1, .int 0, .ref q2, .ref q3, .ref q4, .int 0, .int (1 : Int32)])), (q1, .inl (cC, 512, .inl (fun _ => 0))), (q2, .inl (cZ, 12, .inl (fun _ => 0))), (q3, .inl (cI, 12, .inl (fun _ => 0))), (q4, .inl (cI, 12, .inl (fun _ => 0)))]) kFX6_36 hinit 0 hC hw rfl rfl rfl (Nat.le_of_ble_eq_true rfl) rfl dX6_init_49 (fun H locs hw => ?_)
  exact rtVA (wf := (fun u : (Nat → Nat) => [(h0, .inr (7, [.ref hp, .ref sy, .ref (u 0), .int 0, .ref (u 1), .ref (u 2), .ref (u 3), .int 0, .int (1 : Int32)])), ((u 0), .inl (cC, 512, .inl (fun _ => 0))), ((u 1), .inl (cZ, 12, .inl (fun _ => 0))), ((u 2), .inl (cI, 12, .inl (fun _ => 0))), ((u 3), .inl (cI, 12, .inl (fun _ => 0)))])) (fun j => [q1, q2, q3, q4].getD j 0) hC hr hlk hw trivial (Nat.le_of_ble_eq_true rfl) (Nat.le_of_ble_eq_true rfl) dX6_init_52
set_option maxHeartbeats 4000000 in
set_option maxRecDepth 100000 in
theorem m_X4_init (ea : Nat → Nat → Nat) (l : Launch) (D : va_G) (cI cC cZ cJ : ClassId) (h0 hp sy ou : Nat) : MetVA ea l yX4_init cX4_init 4 { frames := 1, cells := 0, slots := 0, locals := 21 } D (ty4 cI cC cZ cJ) [(h0, .inr (5, [.null, .null, .null]))] [.ref h0, .ref hp, .ref sy, .ref ou] (fun u : (Nat → Nat) => [(h0, .inr (5, [.ref hp, .ref sy, .ref ou]))]) (fun _ => True) 0 0 := by
  refine mkVA (by decide) rfl (Nat.le_of_ble_eq_true rfl) ?_
  intro p e s m args below meth c A ls hC hr hlk hinit hw hE hl
  have hx := hC.1
  have hb := hC.2.1
  have hl : lv_has ls 4 [(0, .ref h0), (1, .ref hp), (2, .ref sy), (3, .ref ou)] := hl
  refine lv_aload_n hx hb dX4_init_0 rfl (lv_at hl 0 rfl) ?_
  refine objI kbX4_3 hC hl.1 dX4_init_1 (Nat.le_of_ble_eq_true rfl) (Nat.le_of_ble_eq_true rfl) ?_
  refine lv_aload_n hx hb dX4_init_4 rfl (lv_at hl 0 rfl) ?_
  refine lv_aload_n hx hb dX4_init_5 rfl (lv_at hl 1 rfl) ?_
  refine ptF (ws' := [(h0, .inr (5, [.ref hp, .null, .null]))]) kFX4_9 hinit 0 hC hw rfl rfl rfl (Nat.le_of_ble_eq_true rfl) rfl dX4_init_6 (fun H locs hw => ?_)
  refine lv_aload_n hx hb dX4_init_9 rfl (lv_at hl 0 rfl) ?_
  refine lv_aload_n hx hb dX4_init_10 rfl (lv_at hl 2 rfl) ?_
  refine ptF (ws' := [(h0, .inr (5, [.ref hp, .ref sy, .null]))]) kFX4_15 hinit 0 hC hw rfl rfl rfl (Nat.le_of_ble_eq_true rfl) rfl dX4_init_11 (fun H locs hw => ?_)
  refine lv_aload_n hx hb dX4_init_14 rfl (lv_at hl 0 rfl) ?_
  refine lv_aload_n hx hb dX4_init_15 rfl (lv_at hl 3 rfl) ?_
  refine ptF (ws' := [(h0, .inr (5, [.ref hp, .ref sy, .ref ou]))]) kFX4_19 hinit 0 hC hw rfl rfl rfl (Nat.le_of_ble_eq_true rfl) rfl dX4_init_16 (fun H locs hw => ?_)
  exact rtVA (wf := (fun u : (Nat → Nat) => [(h0, .inr (5, [.ref hp, .ref sy, .ref ou]))])) (fun _ => 0) hC hr hlk hw trivial (Nat.le_of_ble_eq_true rfl) (Nat.le_of_ble_eq_true rfl) dX4_init_19
set_option maxHeartbeats 4000000 in
set_option maxRecDepth 100000 in
theorem m_X1_init (ea : Nat → Nat → Nat) (l : Launch) (D : va_G) (cI cC cZ cJ : ClassId) (h0 hp sy : Nat) : MetVA ea l yX1_init cX1_init 3 { frames := 2, cells := 3, slots := 1550, locals := 42 } D (ty4 cI cC cZ cJ) [(h0, .inr (2, [.null, .null, .null, .int 0, .null]))] [.ref h0, .ref hp, .ref sy] (fun u : (Nat → Nat) => [(h0, .inr (2, [.ref hp, .ref sy, .ref (u 0), .int 0, .ref (u 1)])), ((u 0), .inl (cI, 1536, .inl (fun _ => 0))), ((u 1), .inr (9, [.ref (u 2), .int 0])), ((u 2), .inl (cI, 12, .inl (fun _ => 0)))]) (fun _ => True) 3 1550 := by
  refine mkVA (by decide) rfl (Nat.le_of_ble_eq_true rfl) ?_
  intro p e s m args below meth c A ls hC hr hlk hinit hw hE hl
  have hx := hC.1
  have hb := hC.2.1
  have hl : lv_has ls 3 [(0, .ref h0), (1, .ref hp), (2, .ref sy)] := hl
  refine lv_aload_n hx hb dX1_init_0 rfl (lv_at hl 0 rfl) ?_
  refine objI kbX1_3 hC hl.1 dX1_init_1 (Nat.le_of_ble_eq_true rfl) (Nat.le_of_ble_eq_true rfl) ?_
  refine lv_aload_n hx hb dX1_init_4 rfl (lv_at hl 0 rfl) ?_
  refine lv_sipush (v := (1536 : Int32)) hx hb dX1_init_5 (by decide) ?_
  refine nwA (a0 := (1536, .inl (fun _ => 0))) (N' := 1536) 0 kaint rfl (fun _ h => h) hC hw rfl (fun _ => rfl) (by decide) (by decide) (by decide) (Nat.le_of_ble_eq_true rfl) (Nat.le_of_ble_eq_true rfl) dX1_init_8 (fun q1 H hw => ?_)
  have hw : Wd D (ty4 cI cC cZ cJ) A s [(h0, .inr (2, [.null, .null, .null, .int 0, .null])), (q1, .inl (cI, 1536, .inl (fun _ => 0)))] _ _ := hw
  refine ptF (ws' := [(h0, .inr (2, [.null, .null, .ref q1, .int 0, .null])), (q1, .inl (cI, 1536, .inl (fun _ => 0)))]) kFX1_11 hinit 0 hC hw rfl rfl rfl (Nat.le_of_ble_eq_true rfl) rfl dX1_init_10 (fun H locs hw => ?_)
  refine lv_aload_n hx hb dX1_init_13 rfl (lv_at hl 0 rfl) ?_
  refine nwO (ci := 9) (fs := [.null, .int 0]) kwX1_15 kwiX8 kwnX8 iX8 tyX8 tyX8_ok rfl (by decide) hC hw (Nat.le_of_ble_eq_true rfl) (Nat.le_of_ble_eq_true rfl) dX1_init_14 (fun q2 H hw => ?_)
  have hw : Wd D (ty4 cI cC cZ cJ) A s [(h0, .inr (2, [.null, .null, .ref q1, .int 0, .null])), (q1, .inl (cI, 1536, .inl (fun _ => 0))), (q2, .inr (9, [.null, .int 0]))] _ _ := hw
  refine lv_dup hx hb dX1_init_17 rfl ?_
  refine lv_bipush (v := (12 : Int32)) hx hb dX1_init_18 (by decide) ?_
  refine cIV (wr := [(h0, .inr (2, [.null, .null, .ref q1, .int 0, .null])), (q1, .inl (cI, 1536, .inl (fun _ => 0)))]) kiX1_17 hC hw hE (m_X8_init ea l D cI cC cZ cJ q2 12 (by decide)) [2] [0, 1] rfl rfl rfl rfl (by decide) rfl rfl ⟨Nat.le_of_ble_eq_true rfl, Nat.le_of_ble_eq_true rfl⟩ rfl hl.1 (Nat.le_of_ble_eq_true rfl) dX1_init_20 ⟨Nat.le_of_ble_eq_true rfl, Nat.le_of_ble_eq_true rfl⟩ rfl ?_
  intro u3 H locs _ hw
  have hw : Wd D (ty4 cI cC cZ cJ) A s [(h0, .inr (2, [.null, .null, .ref q1, .int 0, .null])), (q1, .inl (cI, 1536, .inl (fun _ => 0))), (q2, .inr (9, [.ref u3, .int 0])), (u3, .inl (cI, 12, .inl (fun _ => 0)))] _ _ := hw
  refine ptF (ws' := [(h0, .inr (2, [.null, .null, .ref q1, .int 0, .ref q2])), (q1, .inl (cI, 1536, .inl (fun _ => 0))), (q2, .inr (9, [.ref u3, .int 0])), (u3, .inl (cI, 12, .inl (fun _ => 0)))]) kFX1_20 hinit 0 hC hw rfl rfl rfl (Nat.le_of_ble_eq_true rfl) rfl dX1_init_23 (fun H locs hw => ?_)
  refine lv_aload_n hx hb dX1_init_26 rfl (lv_at hl 0 rfl) ?_
  refine lv_aload_n hx hb dX1_init_27 rfl (lv_at hl 1 rfl) ?_
  refine ptF (ws' := [(h0, .inr (2, [.ref hp, .null, .ref q1, .int 0, .ref q2])), (q1, .inl (cI, 1536, .inl (fun _ => 0))), (q2, .inr (9, [.ref u3, .int 0])), (u3, .inl (cI, 12, .inl (fun _ => 0)))]) kFX1_24 hinit 0 hC hw rfl rfl rfl (Nat.le_of_ble_eq_true rfl) rfl dX1_init_28 (fun H locs hw => ?_)
  refine lv_aload_n hx hb dX1_init_31 rfl (lv_at hl 0 rfl) ?_
  refine lv_aload_n hx hb dX1_init_32 rfl (lv_at hl 2 rfl) ?_
  refine ptF (ws' := [(h0, .inr (2, [.ref hp, .ref sy, .ref q1, .int 0, .ref q2])), (q1, .inl (cI, 1536, .inl (fun _ => 0))), (q2, .inr (9, [.ref u3, .int 0])), (u3, .inl (cI, 12, .inl (fun _ => 0)))]) kFX1_28 hinit 0 hC hw rfl rfl rfl (Nat.le_of_ble_eq_true rfl) rfl dX1_init_33 (fun H locs hw => ?_)
  exact rtVA (wf := (fun u : (Nat → Nat) => [(h0, .inr (2, [.ref hp, .ref sy, .ref (u 0), .int 0, .ref (u 1)])), ((u 0), .inl (cI, 1536, .inl (fun _ => 0))), ((u 1), .inr (9, [.ref (u 2), .int 0])), ((u 2), .inl (cI, 12, .inl (fun _ => 0)))])) (fun j => [q1, q2, u3].getD j 0) hC hr hlk hw trivial (Nat.le_of_ble_eq_true rfl) (Nat.le_of_ble_eq_true rfl) dX1_init_36
set_option maxHeartbeats 4000000 in
set_option maxRecDepth 100000 in
theorem m_X7_init (ea : Nat → Nat → Nat) (l : Launch) (D : va_G) (cI cC cZ cJ : ClassId) (h0 hp sy ip pr : Nat) : MetVA ea l yX7_init cX7_init 5 { frames := 3, cells := 10, slots := 4659, locals := 64 } D (ty4 cI cC cZ cJ) [(h0, .inr (8, [.null, .null, .null, .null, .null, .null, .null, .null, .int 0, .int 0, .int 0, .int 0, .int 0, .int 0, .int 0, .int 0]))] [.ref h0, .ref hp, .ref sy, .ref ip, .ref pr] (fun u : (Nat → Nat) => [(h0, .inr (8, [.ref hp, .ref sy, .ref ip, .ref pr, .ref (u 6), .ref (u 0), .ref (u 2), .ref (u 4), .int 0, .int 0, .int 0, .int 0, .int 0, .int 0, .int 0, .int 0])), ((u 0), .inr (9, [.ref (u 1), .int 0])), ((u 1), .inl (cI, 1550, .inl (fun _ => 0))), ((u 2), .inr (9, [.ref (u 3), .int 0])), ((u 3), .inl (cI, 60, .inl (fun _ => 0))), ((u 4), .inr (9, [.ref (u 5), .int 0])), ((u 5), .inl (cI, 1488, .inl (fun _ => 0))), ((u 6), .inr (2, [.ref hp, .ref sy, .ref (u 7), .int 0, .ref (u 8)])), ((u 7), .inl (cI, 1536, .inl (fun _ => 0))), ((u 8), .inr (9, [.ref (u 9), .int 0])), ((u 9), .inl (cI, 12, .inl (fun _ => 0)))]) (fun _ => True) 10 4659 := by
  refine mkVA (by decide) rfl (Nat.le_of_ble_eq_true rfl) ?_
  intro p e s m args below meth c A ls hC hr hlk hinit hw hE hl
  have hx := hC.1
  have hb := hC.2.1
  have hl : lv_has ls 5 [(0, .ref h0), (1, .ref hp), (2, .ref sy), (3, .ref ip), (4, .ref pr)] := hl
  refine lv_aload_n hx hb dX7_init_0 rfl (lv_at hl 0 rfl) ?_
  refine objI kbX7_5 hC hl.1 dX7_init_1 (Nat.le_of_ble_eq_true rfl) (Nat.le_of_ble_eq_true rfl) ?_
  refine lv_aload_n hx hb dX7_init_4 rfl (lv_at hl 0 rfl) ?_
  refine nwO (ci := 9) (fs := [.null, .int 0]) kwX7_11 kwiX8 kwnX8 iX8 tyX8 tyX8_ok rfl (by decide) hC hw (Nat.le_of_ble_eq_true rfl) (Nat.le_of_ble_eq_true rfl) dX7_init_5 (fun q1 H hw => ?_)
  have hw : Wd D (ty4 cI cC cZ cJ) A s [(h0, .inr (8, [.null, .null, .null, .null, .null, .null, .null, .null, .int 0, .int 0, .int 0, .int 0, .int 0, .int 0, .int 0, .int 0])), (q1, .inr (9, [.null, .int 0]))] _ _ := hw
  refine lv_dup hx hb dX7_init_8 rfl ?_
  refine lv_sipush (v := (1550 : Int32)) hx hb dX7_init_9 (by decide) ?_
  refine cIV (wr := [(h0, .inr (8, [.null, .null, .null, .null, .null, .null, .null, .null, .int 0, .int 0, .int 0, .int 0, .int 0, .int 0, .int 0, .int 0]))]) kiX7_13 hC hw hE (m_X8_init ea l D cI cC cZ cJ q1 1550 (by decide)) [1] [0] rfl rfl rfl rfl (by decide) rfl rfl ⟨Nat.le_of_ble_eq_true rfl, Nat.le_of_ble_eq_true rfl⟩ rfl hl.1 (Nat.le_of_ble_eq_true rfl) dX7_init_12 ⟨Nat.le_of_ble_eq_true rfl, Nat.le_of_ble_eq_true rfl⟩ rfl ?_
  intro u2 H locs _ hw
  have hw : Wd D (ty4 cI cC cZ cJ) A s [(h0, .inr (8, [.null, .null, .null, .null, .null, .null, .null, .null, .int 0, .int 0, .int 0, .int 0, .int 0, .int 0, .int 0, .int 0])), (q1, .inr (9, [.ref u2, .int 0])), (u2, .inl (cI, 1550, .inl (fun _ => 0)))] _ _ := hw
  refine ptF (ws' := [(h0, .inr (8, [.null, .null, .null, .null, .null, .ref q1, .null, .null, .int 0, .int 0, .int 0, .int 0, .int 0, .int 0, .int 0, .int 0])), (q1, .inr (9, [.ref u2, .int 0])), (u2, .inl (cI, 1550, .inl (fun _ => 0)))]) kFX7_16 hinit 0 hC hw rfl rfl rfl (Nat.le_of_ble_eq_true rfl) rfl dX7_init_15 (fun H locs hw => ?_)
  refine lv_aload_n hx hb dX7_init_18 rfl (lv_at hl 0 rfl) ?_
  refine nwO (ci := 9) (fs := [.null, .int 0]) kwX7_11 kwiX8 kwnX8 iX8 tyX8 tyX8_ok rfl (by decide) hC hw (Nat.le_of_ble_eq_true rfl) (Nat.le_of_ble_eq_true rfl) dX7_init_19 (fun q3 H hw => ?_)
  have hw : Wd D (ty4 cI cC cZ cJ) A s [(h0, .inr (8, [.null, .null, .null, .null, .null, .ref q1, .null, .null, .int 0, .int 0, .int 0, .int 0, .int 0, .int 0, .int 0, .int 0])), (q1, .inr (9, [.ref u2, .int 0])), (u2, .inl (cI, 1550, .inl (fun _ => 0))), (q3, .inr (9, [.null, .int 0]))] _ _ := hw
  refine lv_dup hx hb dX7_init_22 rfl ?_
  refine lv_bipush (v := (60 : Int32)) hx hb dX7_init_23 (by decide) ?_
  refine cIV (wr := [(h0, .inr (8, [.null, .null, .null, .null, .null, .ref q1, .null, .null, .int 0, .int 0, .int 0, .int 0, .int 0, .int 0, .int 0, .int 0])), (q1, .inr (9, [.ref u2, .int 0])), (u2, .inl (cI, 1550, .inl (fun _ => 0)))]) kiX7_13 hC hw hE (m_X8_init ea l D cI cC cZ cJ q3 60 (by decide)) [3] [0, 1, 2] rfl rfl rfl rfl (by decide) rfl rfl ⟨Nat.le_of_ble_eq_true rfl, Nat.le_of_ble_eq_true rfl⟩ rfl hl.1 (Nat.le_of_ble_eq_true rfl) dX7_init_25 ⟨Nat.le_of_ble_eq_true rfl, Nat.le_of_ble_eq_true rfl⟩ rfl ?_
  intro u4 H locs _ hw
  have hw : Wd D (ty4 cI cC cZ cJ) A s [(h0, .inr (8, [.null, .null, .null, .null, .null, .ref q1, .null, .null, .int 0, .int 0, .int 0, .int 0, .int 0, .int 0, .int 0, .int 0])), (q1, .inr (9, [.ref u2, .int 0])), (u2, .inl (cI, 1550, .inl (fun _ => 0))), (q3, .inr (9, [.ref u4, .int 0])), (u4, .inl (cI, 60, .inl (fun _ => 0)))] _ _ := hw
  refine ptF (ws' := [(h0, .inr (8, [.null, .null, .null, .null, .null, .ref q1, .ref q3, .null, .int 0, .int 0, .int 0, .int 0, .int 0, .int 0, .int 0, .int 0])), (q1, .inr (9, [.ref u2, .int 0])), (u2, .inl (cI, 1550, .inl (fun _ => 0))), (q3, .inr (9, [.ref u4, .int 0])), (u4, .inl (cI, 60, .inl (fun _ => 0)))]) kFX7_20 hinit 0 hC hw rfl rfl rfl (Nat.le_of_ble_eq_true rfl) rfl dX7_init_28 (fun H locs hw => ?_)
  refine lv_aload_n hx hb dX7_init_31 rfl (lv_at hl 0 rfl) ?_
  refine nwO (ci := 9) (fs := [.null, .int 0]) kwX7_11 kwiX8 kwnX8 iX8 tyX8 tyX8_ok rfl (by decide) hC hw (Nat.le_of_ble_eq_true rfl) (Nat.le_of_ble_eq_true rfl) dX7_init_32 (fun q5 H hw => ?_)
  have hw : Wd D (ty4 cI cC cZ cJ) A s [(h0, .inr (8, [.null, .null, .null, .null, .null, .ref q1, .ref q3, .null, .int 0, .int 0, .int 0, .int 0, .int 0, .int 0, .int 0, .int 0])), (q1, .inr (9, [.ref u2, .int 0])), (u2, .inl (cI, 1550, .inl (fun _ => 0))), (q3, .inr (9, [.ref u4, .int 0])), (u4, .inl (cI, 60, .inl (fun _ => 0))), (q5, .inr (9, [.null, .int 0]))] _ _ := hw
  refine lv_dup hx hb dX7_init_35 rfl ?_
  refine lv_sipush (v := (1488 : Int32)) hx hb dX7_init_36 (by decide) ?_
  refine cIV (wr := [(h0, .inr (8, [.null, .null, .null, .null, .null, .ref q1, .ref q3, .null, .int 0, .int 0, .int 0, .int 0, .int 0, .int 0, .int 0, .int 0])), (q1, .inr (9, [.ref u2, .int 0])), (u2, .inl (cI, 1550, .inl (fun _ => 0))), (q3, .inr (9, [.ref u4, .int 0])), (u4, .inl (cI, 60, .inl (fun _ => 0)))]) kiX7_13 hC hw hE (m_X8_init ea l D cI cC cZ cJ q5 1488 (by decide)) [5] [0, 1, 2, 3, 4] rfl rfl rfl rfl (by decide) rfl rfl ⟨Nat.le_of_ble_eq_true rfl, Nat.le_of_ble_eq_true rfl⟩ rfl hl.1 (Nat.le_of_ble_eq_true rfl) dX7_init_39 ⟨Nat.le_of_ble_eq_true rfl, Nat.le_of_ble_eq_true rfl⟩ rfl ?_
  intro u6 H locs _ hw
  have hw : Wd D (ty4 cI cC cZ cJ) A s [(h0, .inr (8, [.null, .null, .null, .null, .null, .ref q1, .ref q3, .null, .int 0, .int 0, .int 0, .int 0, .int 0, .int 0, .int 0, .int 0])), (q1, .inr (9, [.ref u2, .int 0])), (u2, .inl (cI, 1550, .inl (fun _ => 0))), (q3, .inr (9, [.ref u4, .int 0])), (u4, .inl (cI, 60, .inl (fun _ => 0))), (q5, .inr (9, [.ref u6, .int 0])), (u6, .inl (cI, 1488, .inl (fun _ => 0)))] _ _ := hw
  refine ptF (ws' := [(h0, .inr (8, [.null, .null, .null, .null, .null, .ref q1, .ref q3, .ref q5, .int 0, .int 0, .int 0, .int 0, .int 0, .int 0, .int 0, .int 0])), (q1, .inr (9, [.ref u2, .int 0])), (u2, .inl (cI, 1550, .inl (fun _ => 0))), (q3, .inr (9, [.ref u4, .int 0])), (u4, .inl (cI, 60, .inl (fun _ => 0))), (q5, .inr (9, [.ref u6, .int 0])), (u6, .inl (cI, 1488, .inl (fun _ => 0)))]) kFX7_23 hinit 0 hC hw rfl rfl rfl (Nat.le_of_ble_eq_true rfl) rfl dX7_init_42 (fun H locs hw => ?_)
  refine lv_aload_n hx hb dX7_init_45 rfl (lv_at hl 0 rfl) ?_
  refine lv_aload_n hx hb dX7_init_46 rfl (lv_at hl 1 rfl) ?_
  refine ptF (ws' := [(h0, .inr (8, [.ref hp, .null, .null, .null, .null, .ref q1, .ref q3, .ref q5, .int 0, .int 0, .int 0, .int 0, .int 0, .int 0, .int 0, .int 0])), (q1, .inr (9, [.ref u2, .int 0])), (u2, .inl (cI, 1550, .inl (fun _ => 0))), (q3, .inr (9, [.ref u4, .int 0])), (u4, .inl (cI, 60, .inl (fun _ => 0))), (q5, .inr (9, [.ref u6, .int 0])), (u6, .inl (cI, 1488, .inl (fun _ => 0)))]) kFX7_26 hinit 0 hC hw rfl rfl rfl (Nat.le_of_ble_eq_true rfl) rfl dX7_init_47 (fun H locs hw => ?_)
  refine lv_aload_n hx hb dX7_init_50 rfl (lv_at hl 0 rfl) ?_
  refine lv_aload_n hx hb dX7_init_51 rfl (lv_at hl 2 rfl) ?_
  refine ptF (ws' := [(h0, .inr (8, [.ref hp, .ref sy, .null, .null, .null, .ref q1, .ref q3, .ref q5, .int 0, .int 0, .int 0, .int 0, .int 0, .int 0, .int 0, .int 0])), (q1, .inr (9, [.ref u2, .int 0])), (u2, .inl (cI, 1550, .inl (fun _ => 0))), (q3, .inr (9, [.ref u4, .int 0])), (u4, .inl (cI, 60, .inl (fun _ => 0))), (q5, .inr (9, [.ref u6, .int 0])), (u6, .inl (cI, 1488, .inl (fun _ => 0)))]) kFX7_30 hinit 0 hC hw rfl rfl rfl (Nat.le_of_ble_eq_true rfl) rfl dX7_init_52 (fun H locs hw => ?_)
  refine lv_aload_n hx hb dX7_init_55 rfl (lv_at hl 0 rfl) ?_
  refine lv_aload_n hx hb dX7_init_56 rfl (lv_at hl 3 rfl) ?_
  refine ptF (ws' := [(h0, .inr (8, [.ref hp, .ref sy, .ref ip, .null, .null, .ref q1, .ref q3, .ref q5, .int 0, .int 0, .int 0, .int 0, .int 0, .int 0, .int 0, .int 0])), (q1, .inr (9, [.ref u2, .int 0])), (u2, .inl (cI, 1550, .inl (fun _ => 0))), (q3, .inr (9, [.ref u4, .int 0])), (u4, .inl (cI, 60, .inl (fun _ => 0))), (q5, .inr (9, [.ref u6, .int 0])), (u6, .inl (cI, 1488, .inl (fun _ => 0)))]) kFX7_34 hinit 0 hC hw rfl rfl rfl (Nat.le_of_ble_eq_true rfl) rfl dX7_init_57 (fun H locs hw => ?_)
  refine lv_aload_n hx hb dX7_init_60 rfl (lv_at hl 0 rfl) ?_
  refine lv_aload hx hb dX7_init_61 (lv_at hl 4 rfl) ?_
  refine ptF (ws' := [(h0, .inr (8, [.ref hp, .ref sy, .ref ip, .ref pr, .null, .ref q1, .ref q3, .ref q5, .int 0, .int 0, .int 0, .int 0, .int 0, .int 0, .int 0, .int 0])), (q1, .inr (9, [.ref u2, .int 0])), (u2, .inl (cI, 1550, .inl (fun _ => 0))), (q3, .inr (9, [.ref u4, .int 0])), (u4, .inl (cI, 60, .inl (fun _ => 0))), (q5, .inr (9, [.ref u6, .int 0])), (u6, .inl (cI, 1488, .inl (fun _ => 0)))]) kFX7_38 hinit 0 hC hw rfl rfl rfl (Nat.le_of_ble_eq_true rfl) rfl dX7_init_63 (fun H locs hw => ?_)
  refine lv_aload_n hx hb dX7_init_66 rfl (lv_at hl 0 rfl) ?_
  refine nwO (ci := 2) (fs := [.null, .null, .null, .int 0, .null]) kwX7_42 kwiX1 kwnX1 iX1 tyX1 tyX1_ok rfl (by decide) hC hw (Nat.le_of_ble_eq_true rfl) (Nat.le_of_ble_eq_true rfl) dX7_init_67 (fun q7 H hw => ?_)
  have hw : Wd D (ty4 cI cC cZ cJ) A s [(h0, .inr (8, [.ref hp, .ref sy, .ref ip, .ref pr, .null, .ref q1, .ref q3, .ref q5, .int 0, .int 0, .int 0, .int 0, .int 0, .int 0, .int 0, .int 0])), (q1, .inr (9, [.ref u2, .int 0])), (u2, .inl (cI, 1550, .inl (fun _ => 0))), (q3, .inr (9, [.ref u4, .int 0])), (u4, .inl (cI, 60, .inl (fun _ => 0))), (q5, .inr (9, [.ref u6, .int 0])), (u6, .inl (cI, 1488, .inl (fun _ => 0))), (q7, .inr (2, [.null, .null, .null, .int 0, .null]))] _ _ := hw
  refine lv_dup hx hb dX7_init_70 rfl ?_
  refine lv_aload_n hx hb dX7_init_71 rfl (lv_at hl 1 rfl) ?_
  refine lv_aload_n hx hb dX7_init_72 rfl (lv_at hl 2 rfl) ?_
  refine cIV (wr := [(h0, .inr (8, [.ref hp, .ref sy, .ref ip, .ref pr, .null, .ref q1, .ref q3, .ref q5, .int 0, .int 0, .int 0, .int 0, .int 0, .int 0, .int 0, .int 0])), (q1, .inr (9, [.ref u2, .int 0])), (u2, .inl (cI, 1550, .inl (fun _ => 0))), (q3, .inr (9, [.ref u4, .int 0])), (u4, .inl (cI, 60, .inl (fun _ => 0))), (q5, .inr (9, [.ref u6, .int 0])), (u6, .inl (cI, 1488, .inl (fun _ => 0)))]) kiX7_44 hC hw hE (m_X1_init ea l D cI cC cZ cJ q7 hp sy) [7] [0, 1, 2, 3, 4, 5, 6] rfl rfl rfl rfl (by decide) rfl rfl ⟨Nat.le_of_ble_eq_true rfl, Nat.le_of_ble_eq_true rfl⟩ rfl hl.1 (Nat.le_of_ble_eq_true rfl) dX7_init_73 ⟨Nat.le_of_ble_eq_true rfl, Nat.le_of_ble_eq_true rfl⟩ rfl ?_
  intro u8 H locs _ hw
  have hw : Wd D (ty4 cI cC cZ cJ) A s [(h0, .inr (8, [.ref hp, .ref sy, .ref ip, .ref pr, .null, .ref q1, .ref q3, .ref q5, .int 0, .int 0, .int 0, .int 0, .int 0, .int 0, .int 0, .int 0])), (q1, .inr (9, [.ref u2, .int 0])), (u2, .inl (cI, 1550, .inl (fun _ => 0))), (q3, .inr (9, [.ref u4, .int 0])), (u4, .inl (cI, 60, .inl (fun _ => 0))), (q5, .inr (9, [.ref u6, .int 0])), (u6, .inl (cI, 1488, .inl (fun _ => 0))), (q7, .inr (2, [.ref hp, .ref sy, .ref (u8 0), .int 0, .ref (u8 1)])), ((u8 0), .inl (cI, 1536, .inl (fun _ => 0))), ((u8 1), .inr (9, [.ref (u8 2), .int 0])), ((u8 2), .inl (cI, 12, .inl (fun _ => 0)))] _ _ := hw
  refine ptF (ws' := [(h0, .inr (8, [.ref hp, .ref sy, .ref ip, .ref pr, .ref q7, .ref q1, .ref q3, .ref q5, .int 0, .int 0, .int 0, .int 0, .int 0, .int 0, .int 0, .int 0])), (q1, .inr (9, [.ref u2, .int 0])), (u2, .inl (cI, 1550, .inl (fun _ => 0))), (q3, .inr (9, [.ref u4, .int 0])), (u4, .inl (cI, 60, .inl (fun _ => 0))), (q5, .inr (9, [.ref u6, .int 0])), (u6, .inl (cI, 1488, .inl (fun _ => 0))), (q7, .inr (2, [.ref hp, .ref sy, .ref (u8 0), .int 0, .ref (u8 1)])), ((u8 0), .inl (cI, 1536, .inl (fun _ => 0))), ((u8 1), .inr (9, [.ref (u8 2), .int 0])), ((u8 2), .inl (cI, 12, .inl (fun _ => 0)))]) kFX7_47 hinit 0 hC hw rfl rfl rfl (Nat.le_of_ble_eq_true rfl) rfl dX7_init_76 (fun H locs hw => ?_)
  exact rtVA (wf := (fun u : (Nat → Nat) => [(h0, .inr (8, [.ref hp, .ref sy, .ref ip, .ref pr, .ref (u 6), .ref (u 0), .ref (u 2), .ref (u 4), .int 0, .int 0, .int 0, .int 0, .int 0, .int 0, .int 0, .int 0])), ((u 0), .inr (9, [.ref (u 1), .int 0])), ((u 1), .inl (cI, 1550, .inl (fun _ => 0))), ((u 2), .inr (9, [.ref (u 3), .int 0])), ((u 3), .inl (cI, 60, .inl (fun _ => 0))), ((u 4), .inr (9, [.ref (u 5), .int 0])), ((u 5), .inl (cI, 1488, .inl (fun _ => 0))), ((u 6), .inr (2, [.ref hp, .ref sy, .ref (u 7), .int 0, .ref (u 8)])), ((u 7), .inl (cI, 1536, .inl (fun _ => 0))), ((u 8), .inr (9, [.ref (u 9), .int 0])), ((u 9), .inl (cI, 12, .inl (fun _ => 0)))])) (fun j => [q1, u2, q3, u4, q5, u6, q7, (u8 0), (u8 1), (u8 2)].getD j 0) hC hr hlk hw trivial (Nat.le_of_ble_eq_true rfl) (Nat.le_of_ble_eq_true rfl) dX7_init_79
