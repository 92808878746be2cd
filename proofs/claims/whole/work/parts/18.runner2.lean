def V_X7_indexed (N : Nat) (x1 : Int32) (x2 : Int32) (G : SG) (post : Int32 → SG → Prop) : Prop := V_X10_tag x1 (fun r_1 => ((¬ r_1 = (5 : Int32) → ∀ g_3 : SG, g_3 = uo G 4 (us (G 4) 2 (4 : Int32)) → post (-1 : Int32) g_3) ∧ (r_1 = (5 : Int32) → V_X10_tag x2 (fun r_4 => ((r_4 = (2 : Int32) → V_X10_held x2 (fun r_6 => ((r_6 < 0 → ∀ g_8 : SG, g_8 = uo G 4 (us (G 4) 2 (6 : Int32)) → post (-1 : Int32) g_8) ∧ (¬ r_6 < 0 → V_X2_vectorLength N x1 (G 2) (fun r_9 u_11 => ∀ g_10 : SG, g_10 = uo G 2 u_11 → ((r_6 < r_9 → V_X10_held x1 (fun r_13 => post ((r_13 + (1 : Int32)) + r_6) g_10)) ∧ (¬ r_6 < r_9 → ∀ g_14 : SG, g_14 = uo g_10 4 (us (g_10 4) 2 (6 : Int32)) → post (-1 : Int32) g_14))))))) ∧ (¬ r_4 = (2 : Int32) → ∀ g_15 : SG, g_15 = uo G 4 (us (G 4) 2 (4 : Int32)) → post (-1 : Int32) g_15))))))
abbrev RM_X7_indexed : Room := { frames := 2, cells := 0, slots := 0, locals := 42 }
set_option maxHeartbeats 4000000 in
set_option maxRecDepth 100000 in
theorem m_X7_indexed (l : Launch) (D : va_G) (cI cC cZ cJ : ClassId) (ad : Nat → Nat) (N : Nat) (ea : Nat → Nat → Nat) (x1 : Int32) (x2 : Int32) (G : SG) {post : Int32 → SG → Prop} (h : V_X7_indexed N x1 x2 G post) : MetIE ea l yX7_indexed cX7_indexed 4 .int RM_X7_indexed D (ty4 cI cC cZ cJ) (wT ad cI cC cZ cJ N G) [.ref (ad 13), .int x1, .int x2] (fun u : SG => (wT ad cI cC cZ cJ N u)) post := by
  refine mkIE (by decide) (Nat.le_of_ble_eq_true rfl) ?_
  intro p e s m args below meth c A ls hC hr hlk hw hE hl
  have hx := hC.1
  have hb := hC.2.1
  have hl : lv_has ls 4 [(0, .ref (ad 13)), (1, .int x1), (2, .int x2)] := hl
  unfold V_X7_indexed at h
  refine lv_iload_n hx hb dX7_indexed_0 rfl (lv_at hl 1 rfl) ?_
  refine cSI ksX7_210 hC (m_X10_tag l x1 h) rfl rfl ⟨by decide, by decide⟩ rfl hl.1 (Nat.le_of_ble_eq_true rfl) dX7_indexed_1 ⟨Nat.zero_le _, Nat.zero_le _⟩ rfl ?_
  intro r_1 h
  refine lv_iconst (v := (5 : Int32)) hx hb dX7_indexed_4 (by decide) ?_
  refine lv_icmp_ne (tgt := 16) hx hb dX7_indexed_5 (by decide) (fun c_2 => ?_) (fun c_2 => ?_)
  · have h := h.1 c_2
    refine lv_aload_n hx hb dX7_indexed_16 rfl (lv_at hl 0 rfl) ?_
    refine lv_iconst (v := (4 : Int32)) hx hb dX7_indexed_17 (by decide) ?_
    refine pwT_13_10 kpX7_67 hC hw dX7_indexed_18 (fun H locs g_3 eg_3 hw => ?_)
    have h := h g_3 eg_3
    refine lv_iconst (v := (-1 : Int32)) hx hb dX7_indexed_21 (by decide) ?_
    exact rtI (wf := (fun u : SG => (wT ad cI cC cZ cJ N u))) g_3 hC hr hlk hw rfl h dX7_indexed_22
  · have h := h.2 c_2
    refine lv_iload_n hx hb dX7_indexed_8 rfl (lv_at hl 2 rfl) ?_
    refine cSI ksX7_210 hC (m_X10_tag l x2 h) rfl rfl ⟨by decide, by decide⟩ rfl hl.1 (Nat.le_of_ble_eq_true rfl) dX7_indexed_9 ⟨Nat.zero_le _, Nat.zero_le _⟩ rfl ?_
    intro r_4 h
    refine lv_iconst (v := (2 : Int32)) hx hb dX7_indexed_12 (by decide) ?_
    refine lv_icmp_eq (tgt := 23) hx hb dX7_indexed_13 (by decide) (fun c_5 => ?_) (fun c_5 => ?_)
    · have h := h.1 c_5
      refine lv_iload_n hx hb dX7_indexed_23 rfl (lv_at hl 2 rfl) ?_
      refine cSI ksX7_183 hC (m_X10_held l x2 h) rfl rfl ⟨by decide, by decide⟩ rfl hl.1 (Nat.le_of_ble_eq_true rfl) dX7_indexed_24 ⟨Nat.zero_le _, Nat.zero_le _⟩ rfl ?_
      intro r_6 h
      refine lv_istore_n (lv' := [(3, .int r_6), (0, .ref (ad 13)), (1, .int x1), (2, .int x2)]) hx hb dX7_indexed_27 rfl hl (by decide) rfl (fun ls hl => ?_)
      refine lv_iload_n hx hb dX7_indexed_28 rfl (lv_at hl 0 rfl) ?_
      refine lv_if_lt (tgt := 44) hx hb dX7_indexed_29 (by decide) (fun c_7 => ?_) (fun c_7 => ?_)
      · have h := h.1 c_7
        refine lv_aload_n hx hb dX7_indexed_44 rfl (lv_at hl 1 rfl) ?_
        refine lv_bipush (v := (6 : Int32)) hx hb dX7_indexed_45 (by decide) ?_
        refine pwT_13_10 kpX7_67 hC hw dX7_indexed_47 (fun H locs g_8 eg_8 hw => ?_)
        have h := h g_8 eg_8
        refine lv_iconst (v := (-1 : Int32)) hx hb dX7_indexed_50 (by decide) ?_
        exact rtI (wf := (fun u : SG => (wT ad cI cC cZ cJ N u))) g_8 hC hr hlk hw rfl h dX7_indexed_51
      · have h := h.2 c_7
        refine lv_iload_n hx hb dX7_indexed_32 rfl (lv_at hl 0 rfl) ?_
        refine lv_aload_n hx hb dX7_indexed_33 rfl (lv_at hl 1 rfl) ?_
        refine gt (v := .ref (ad 6)) kfX7_26 13 hC hw rfl rfl dX7_indexed_34 ?_
        refine lv_iload_n hx hb dX7_indexed_37 rfl (lv_at hl 2 rfl) ?_
        refine eI_wT_wHp_6 kmX7_277 hC hw (m_X2_vectorLength l D cI cC cZ cJ (fun j => ad (6 + j)) N x1 (G 2) h) rfl rfl ⟨by decide, by decide⟩ rfl hl.1 (Nat.le_of_ble_eq_true rfl) dX7_indexed_38 ⟨Nat.zero_le _, Nat.zero_le _⟩ rfl ?_
        intro r_9 u_11 g_10 H locs eg_10 h hw
        have h := h g_10 eg_10
        refine lv_icmp_lt (tgt := 52) hx hb dX7_indexed_41 (by decide) (fun c_12 => ?_) (fun c_12 => ?_)
        · have h := h.1 c_12
          refine lv_iload_n hx hb dX7_indexed_52 rfl (lv_at hl 2 rfl) ?_
          refine cSI ksX7_183 hC (m_X10_held l x1 h) rfl rfl ⟨by decide, by decide⟩ rfl hl.1 (Nat.le_of_ble_eq_true rfl) dX7_indexed_53 ⟨Nat.zero_le _, Nat.zero_le _⟩ rfl ?_
          intro r_13 h
          refine lv_iconst (v := (1 : Int32)) hx hb dX7_indexed_56 (by decide) ?_
          refine lv_iadd hx hb dX7_indexed_57 ?_
          refine lv_iload_n hx hb dX7_indexed_58 rfl (lv_at hl 0 rfl) ?_
          refine lv_iadd hx hb dX7_indexed_59 ?_
          exact rtI (wf := (fun u : SG => (wT ad cI cC cZ cJ N u))) g_10 hC hr hlk hw rfl h dX7_indexed_60
        · have h := h.2 c_12
          refine lv_aload_n hx hb dX7_indexed_44 rfl (lv_at hl 1 rfl) ?_
          refine lv_bipush (v := (6 : Int32)) hx hb dX7_indexed_45 (by decide) ?_
          refine pwT_13_10 kpX7_67 hC hw dX7_indexed_47 (fun H locs g_14 eg_14 hw => ?_)
          have h := h g_14 eg_14
          refine lv_iconst (v := (-1 : Int32)) hx hb dX7_indexed_50 (by decide) ?_
          exact rtI (wf := (fun u : SG => (wT ad cI cC cZ cJ N u))) g_14 hC hr hlk hw rfl h dX7_indexed_51
    · have h := h.2 c_5
      refine lv_aload_n hx hb dX7_indexed_16 rfl (lv_at hl 0 rfl) ?_
      refine lv_iconst (v := (4 : Int32)) hx hb dX7_indexed_17 (by decide) ?_
      refine pwT_13_10 kpX7_67 hC hw dX7_indexed_18 (fun H locs g_15 eg_15 hw => ?_)
      have h := h g_15 eg_15
      refine lv_iconst (v := (-1 : Int32)) hx hb dX7_indexed_21 (by decide) ?_
      exact rtI (wf := (fun u : SG => (wT ad cI cC cZ cJ N u))) g_15 hC hr hlk hw rfl h dX7_indexed_22
def V_X7_lengthOf (N : Nat) (x1 : Int32) (G : SG) (post : Int32 → SG → Prop) : Prop := V_X10_tag x1 (fun r_1 => ((r_1 = (5 : Int32) → V_X2_vectorLength N x1 (G 2) (fun r_3 u_5 => ∀ g_4 : SG, g_4 = uo G 2 u_5 → V_X10_of (2 : Int32) r_3 (fun r_6 => post r_6 g_4))) ∧ (¬ r_1 = (5 : Int32) → V_X7_failing N (4 : Int32) G (fun r_7 g_8 => post r_7 g_8))))
abbrev RM_X7_lengthOf : Room := { frames := 2, cells := 0, slots := 0, locals := 42 }
set_option maxHeartbeats 4000000 in
set_option maxRecDepth 100000 in
theorem m_X7_lengthOf (l : Launch) (D : va_G) (cI cC cZ cJ : ClassId) (ad : Nat → Nat) (N : Nat) (ea : Nat → Nat → Nat) (x1 : Int32) (G : SG) {post : Int32 → SG → Prop} (h : V_X7_lengthOf N x1 G post) : MetIE ea l yX7_lengthOf cX7_lengthOf 2 .int RM_X7_lengthOf D (ty4 cI cC cZ cJ) (wT ad cI cC cZ cJ N G) [.ref (ad 13), .int x1] (fun u : SG => (wT ad cI cC cZ cJ N u)) post := by
  refine mkIE (by decide) (Nat.le_of_ble_eq_true rfl) ?_
  intro p e s m args below meth c A ls hC hr hlk hw hE hl
  have hx := hC.1
  have hb := hC.2.1
  have hl : lv_has ls 2 [(0, .ref (ad 13)), (1, .int x1)] := hl
  unfold V_X7_lengthOf at h
  refine lv_iload_n hx hb dX7_lengthOf_0 rfl (lv_at hl 1 rfl) ?_
  refine cSI ksX7_210 hC (m_X10_tag l x1 h) rfl rfl ⟨by decide, by decide⟩ rfl hl.1 (Nat.le_of_ble_eq_true rfl) dX7_lengthOf_1 ⟨Nat.zero_le _, Nat.zero_le _⟩ rfl ?_
  intro r_1 h
  refine lv_iconst (v := (5 : Int32)) hx hb dX7_lengthOf_4 (by decide) ?_
  refine lv_icmp_eq (tgt := 14) hx hb dX7_lengthOf_5 (by decide) (fun c_2 => ?_) (fun c_2 => ?_)
  · have h := h.1 c_2
    refine lv_iconst (v := (2 : Int32)) hx hb dX7_lengthOf_14 (by decide) ?_
    refine lv_aload_n hx hb dX7_lengthOf_15 rfl (lv_at hl 0 rfl) ?_
    refine gt (v := .ref (ad 6)) kfX7_26 13 hC hw rfl rfl dX7_lengthOf_16 ?_
    refine lv_iload_n hx hb dX7_lengthOf_19 rfl (lv_at hl 1 rfl) ?_
    refine eI_wT_wHp_6 kmX7_277 hC hw (m_X2_vectorLength l D cI cC cZ cJ (fun j => ad (6 + j)) N x1 (G 2) h) rfl rfl ⟨by decide, by decide⟩ rfl hl.1 (Nat.le_of_ble_eq_true rfl) dX7_lengthOf_20 ⟨Nat.zero_le _, Nat.zero_le _⟩ rfl ?_
    intro r_3 u_5 g_4 H locs eg_4 h hw
    have h := h g_4 eg_4
    refine cSI ksX7_206 hC (m_X10_of l (2 : Int32) r_3 h) rfl rfl ⟨by decide, by decide⟩ rfl hl.1 (Nat.le_of_ble_eq_true rfl) dX7_lengthOf_23 ⟨Nat.zero_le _, Nat.zero_le _⟩ rfl ?_
    intro r_6 h
    exact rtI (wf := (fun u : SG => (wT ad cI cC cZ cJ N u))) g_4 hC hr hlk hw rfl h dX7_lengthOf_26
  · have h := h.2 c_2
    refine lv_aload_n hx hb dX7_lengthOf_8 rfl (lv_at hl 0 rfl) ?_
    refine lv_iconst (v := (4 : Int32)) hx hb dX7_lengthOf_9 (by decide) ?_
    refine cVIwe kmX7_271 hC hw hE (m_X7_failing l D cI cC cZ cJ ad N ea (4 : Int32) G h) rfl rfl ⟨by decide, by decide⟩ (recvW hw rfl 13 rfl) rfl hl.1 (Nat.le_of_ble_eq_true rfl) dX7_lengthOf_10 ⟨Nat.zero_le _, Nat.zero_le _⟩ rfl ?_
    intro r_7 g_8 H locs h hw
    exact rtI (wf := (fun u : SG => (wT ad cI cC cZ cJ N u))) g_8 hC hr hlk hw rfl h dX7_lengthOf_13
def V_X7_ranged (N : Nat) (x1 : Int32) (G : SG) (post : Int32 → SG → Prop) : Prop := V_X11_isInRange x1 (fun r_1 => ((r_1 = 0 → V_X7_failing N (5 : Int32) G (fun r_3 g_4 => post r_3 g_4)) ∧ (¬ r_1 = 0 → V_X10_of (2 : Int32) x1 (fun r_5 => post r_5 G))))
abbrev RM_X7_ranged : Room := { frames := 1, cells := 0, slots := 0, locals := 21 }
set_option maxHeartbeats 4000000 in
set_option maxRecDepth 100000 in
theorem m_X7_ranged (l : Launch) (D : va_G) (cI cC cZ cJ : ClassId) (ad : Nat → Nat) (N : Nat) (ea : Nat → Nat → Nat) (x1 : Int32) (G : SG) {post : Int32 → SG → Prop} (h : V_X7_ranged N x1 G post) : MetIE ea l yX7_ranged cX7_ranged 2 .int RM_X7_ranged D (ty4 cI cC cZ cJ) (wT ad cI cC cZ cJ N G) [.ref (ad 13), .int x1] (fun u : SG => (wT ad cI cC cZ cJ N u)) post := by
  refine mkIE (by decide) (Nat.le_of_ble_eq_true rfl) ?_
  intro p e s m args below meth c A ls hC hr hlk hw hE hl
  have hx := hC.1
  have hb := hC.2.1
  have hl : lv_has ls 2 [(0, .ref (ad 13)), (1, .int x1)] := hl
  unfold V_X7_ranged at h
  refine lv_iload_n hx hb dX7_ranged_0 rfl (lv_at hl 1 rfl) ?_
  refine cSIn (np := 1) hE.2.2.2.2.2.2.2.2.1.2.2.2.2.2.2.2.1 kns kni knc (by decide) hC (m_X11_isInRange l x1 h) rfl rfl ⟨by decide, by decide⟩ rfl hl.1 (Nat.le_of_ble_eq_true rfl) dX7_ranged_1 ⟨Nat.zero_le _, Nat.zero_le _⟩ rfl ?_
  intro r_1 h
  refine lv_if_eq (tgt := 15) hx hb dX7_ranged_4 (by decide) (fun c_2 => ?_) (fun c_2 => ?_)
  · have h := h.1 c_2
    refine lv_aload_n hx hb dX7_ranged_15 rfl (lv_at hl 0 rfl) ?_
    refine lv_iconst (v := (5 : Int32)) hx hb dX7_ranged_16 (by decide) ?_
    refine cVIwe kmX7_271 hC hw hE (m_X7_failing l D cI cC cZ cJ ad N ea (5 : Int32) G h) rfl rfl ⟨by decide, by decide⟩ (recvW hw rfl 13 rfl) rfl hl.1 (Nat.le_of_ble_eq_true rfl) dX7_ranged_17 ⟨Nat.zero_le _, Nat.zero_le _⟩ rfl ?_
    intro r_3 g_4 H locs h hw
    exact rtI (wf := (fun u : SG => (wT ad cI cC cZ cJ N u))) g_4 hC hr hlk hw rfl h dX7_ranged_20
  · have h := h.2 c_2
    refine lv_iconst (v := (2 : Int32)) hx hb dX7_ranged_7 (by decide) ?_
    refine lv_iload_n hx hb dX7_ranged_8 rfl (lv_at hl 1 rfl) ?_
    refine cSI ksX7_206 hC (m_X10_of l (2 : Int32) x1 h) rfl rfl ⟨by decide, by decide⟩ rfl hl.1 (Nat.le_of_ble_eq_true rfl) dX7_ranged_9 ⟨Nat.zero_le _, Nat.zero_le _⟩ rfl ?_
    intro r_5 h
    refine lv_goto (tgt := 20) hx hb dX7_ranged_12 (by decide) ?_
    exact rtI (wf := (fun u : SG => (wT ad cI cC cZ cJ N u))) G hC hr hlk hw rfl h dX7_ranged_20
def V_X7_shifted (N : Nat) (x1 : Int32) (x2 : Int32) (G : SG) (post : Int32 → SG → Prop) : Prop := ((x2 < (-15 : Int32) → V_X7_failing N (4 : Int32) G (fun r_2 g_3 => post r_2 g_3)) ∧ (¬ x2 < (-15 : Int32) → ((x2 ≤ (15 : Int32) → ∀ x_5 : Int32, x_5 = (x1 &&& (65535 : Int32)) → ((x2 < 0 → ∀ x_7 : Int32, x_7 = (x_5 >>> ((-x2) &&& 31)) → V_X10_of (2 : Int32) ((x_7).toInt16.toInt32) (fun r_8 => post r_8 G)) ∧ (¬ x2 < 0 → ∀ x_9 : Int32, x_9 = (x_5 <<< (x2 &&& 31)) → V_X10_of (2 : Int32) ((x_9).toInt16.toInt32) (fun r_10 => post r_10 G)))) ∧ (¬ x2 ≤ (15 : Int32) → V_X7_failing N (4 : Int32) G (fun r_11 g_12 => post r_11 g_12)))))
abbrev RM_X7_shifted : Room := { frames := 1, cells := 0, slots := 0, locals := 21 }
set_option maxHeartbeats 4000000 in
set_option maxRecDepth 100000 in
theorem m_X7_shifted (l : Launch) (D : va_G) (cI cC cZ cJ : ClassId) (ad : Nat → Nat) (N : Nat) (ea : Nat → Nat → Nat) (x1 : Int32) (x2 : Int32) (G : SG) {post : Int32 → SG → Prop} (h : V_X7_shifted N x1 x2 G post) : MetIE ea l yX7_shifted cX7_shifted 5 .int RM_X7_shifted D (ty4 cI cC cZ cJ) (wT ad cI cC cZ cJ N G) [.ref (ad 13), .int x1, .int x2] (fun u : SG => (wT ad cI cC cZ cJ N u)) post := by
  refine mkIE (by decide) (Nat.le_of_ble_eq_true rfl) ?_
  intro p e s m args below meth c A ls hC hr hlk hw hE hl
  have hx := hC.1
  have hb := hC.2.1
  have hl : lv_has ls 5 [(0, .ref (ad 13)), (1, .int x1), (2, .int x2)] := hl
  unfold V_X7_shifted at h
  refine lv_iload_n hx hb dX7_shifted_0 rfl (lv_at hl 2 rfl) ?_
  refine lv_bipush (v := (-15 : Int32)) hx hb dX7_shifted_1 (by decide) ?_
  refine lv_icmp_lt (tgt := 12) hx hb dX7_shifted_3 (by decide) (fun c_1 => ?_) (fun c_1 => ?_)
  · have h := h.1 c_1
    refine lv_aload_n hx hb dX7_shifted_12 rfl (lv_at hl 0 rfl) ?_
    refine lv_iconst (v := (4 : Int32)) hx hb dX7_shifted_13 (by decide) ?_
    refine cVIwe kmX7_271 hC hw hE (m_X7_failing l D cI cC cZ cJ ad N ea (4 : Int32) G h) rfl rfl ⟨by decide, by decide⟩ (recvW hw rfl 13 rfl) rfl hl.1 (Nat.le_of_ble_eq_true rfl) dX7_shifted_14 ⟨Nat.zero_le _, Nat.zero_le _⟩ rfl ?_
    intro r_2 g_3 H locs h hw
    exact rtI (wf := (fun u : SG => (wT ad cI cC cZ cJ N u))) g_3 hC hr hlk hw rfl h dX7_shifted_17
  · have h := h.2 c_1
    refine lv_iload_n hx hb dX7_shifted_6 rfl (lv_at hl 2 rfl) ?_
    refine lv_bipush (v := (15 : Int32)) hx hb dX7_shifted_7 (by decide) ?_
    refine lv_icmp_le (tgt := 18) hx hb dX7_shifted_9 (by decide) (fun c_4 => ?_) (fun c_4 => ?_)
    · have h := h.1 c_4
      refine lv_iload_n hx hb dX7_shifted_18 rfl (lv_at hl 1 rfl) ?_
      refine lv_ldcw (v := (65535 : Int32)) hx hb hC.2.2.2.1 (hC.2.2.2.2 _ (List.mem_cons_of_mem _ kcX7_289)) dX7_shifted_19 ?_
      refine lv_iand hx hb dX7_shifted_22 ?_
      refine lv_topi (fun x_5 ex_5 => ?_)
      have h := h x_5 ex_5
      refine lv_istore_n (lv' := [(3, .int x_5), (0, .ref (ad 13)), (1, .int x1), (2, .int x2)]) hx hb dX7_shifted_23 rfl hl (by decide) rfl (fun ls hl => ?_)
      refine lv_iload_n hx hb dX7_shifted_24 rfl (lv_at hl 3 rfl) ?_
      refine lv_if_lt (tgt := 34) hx hb dX7_shifted_25 (by decide) (fun c_6 => ?_) (fun c_6 => ?_)
      · have h := h.1 c_6
        refine lv_iload_n hx hb dX7_shifted_34 rfl (lv_at hl 0 rfl) ?_
        refine lv_iload_n hx hb dX7_shifted_35 rfl (lv_at hl 3 rfl) ?_
        refine lv_ineg hx hb dX7_shifted_36 ?_
        refine lv_ishr hx hb dX7_shifted_37 ?_
        refine lv_topi (fun x_7 ex_7 => ?_)
        have h := h x_7 ex_7
        refine lv_istore (lv' := [(4, .int x_7), (3, .int x_5), (0, .ref (ad 13)), (1, .int x1), (2, .int x2)]) hx hb dX7_shifted_38 hl (by decide) rfl (fun ls hl => ?_)
        refine lv_iconst (v := (2 : Int32)) hx hb dX7_shifted_40 (by decide) ?_
        refine lv_iload hx hb dX7_shifted_41 (lv_at hl 0 rfl) ?_
        refine lv_i2s hx hb dX7_shifted_43 rfl ?_
        refine cSI ksX7_206 hC (m_X10_of l (2 : Int32) ((x_7).toInt16.toInt32) h) rfl rfl ⟨by decide, by decide⟩ rfl hl.1 (Nat.le_of_ble_eq_true rfl) dX7_shifted_44 ⟨Nat.zero_le _, Nat.zero_le _⟩ rfl ?_
        intro r_8 h
        exact rtI (wf := (fun u : SG => (wT ad cI cC cZ cJ N u))) G hC hr hlk hw rfl h dX7_shifted_47
      · have h := h.2 c_6
        refine lv_iload_n hx hb dX7_shifted_28 rfl (lv_at hl 0 rfl) ?_
        refine lv_iload_n hx hb dX7_shifted_29 rfl (lv_at hl 3 rfl) ?_
        refine lv_ishl hx hb dX7_shifted_30 ?_
        refine lv_goto (tgt := 38) hx hb dX7_shifted_31 (by decide) ?_
        refine lv_topi (fun x_9 ex_9 => ?_)
        have h := h x_9 ex_9
        refine lv_istore (lv' := [(4, .int x_9), (3, .int x_5), (0, .ref (ad 13)), (1, .int x1), (2, .int x2)]) hx hb dX7_shifted_38 hl (by decide) rfl (fun ls hl => ?_)
        refine lv_iconst (v := (2 : Int32)) hx hb dX7_shifted_40 (by decide) ?_
        refine lv_iload hx hb dX7_shifted_41 (lv_at hl 0 rfl) ?_
        refine lv_i2s hx hb dX7_shifted_43 rfl ?_
        refine cSI ksX7_206 hC (m_X10_of l (2 : Int32) ((x_9).toInt16.toInt32) h) rfl rfl ⟨by decide, by decide⟩ rfl hl.1 (Nat.le_of_ble_eq_true rfl) dX7_shifted_44 ⟨Nat.zero_le _, Nat.zero_le _⟩ rfl ?_
        intro r_10 h
        exact rtI (wf := (fun u : SG => (wT ad cI cC cZ cJ N u))) G hC hr hlk hw rfl h dX7_shifted_47
    · have h := h.2 c_4
      refine lv_aload_n hx hb dX7_shifted_12 rfl (lv_at hl 0 rfl) ?_
      refine lv_iconst (v := (4 : Int32)) hx hb dX7_shifted_13 (by decide) ?_
      refine cVIwe kmX7_271 hC hw hE (m_X7_failing l D cI cC cZ cJ ad N ea (4 : Int32) G h) rfl rfl ⟨by decide, by decide⟩ (recvW hw rfl 13 rfl) rfl hl.1 (Nat.le_of_ble_eq_true rfl) dX7_shifted_14 ⟨Nat.zero_le _, Nat.zero_le _⟩ rfl ?_
      intro r_11 g_12 H locs h hw
      exact rtI (wf := (fun u : SG => (wT ad cI cC cZ cJ N u))) g_12 hC hr hlk hw rfl h dX7_shifted_17
def V_X7_computed (N : Nat) (x1 : Nat) (x2 : Int32) (x3 : Int32) (G : SG) (post : Int32 → SG → Prop) : Prop := V_X10_tag x2 (fun r_1 => ((¬ r_1 = (2 : Int32) → V_X7_failing N (4 : Int32) G (fun r_3 g_4 => post r_3 g_4)) ∧ (r_1 = (2 : Int32) → V_X10_tag x3 (fun r_5 => ((r_5 = (2 : Int32) → V_X10_held x2 (fun r_7 => V_X10_held x3 (fun r_8 => (x1 < 32 ∧ (vp_in (nI x1) 32 ∧ ∀ x_10 : Int32, x_10 = (SMAP.getD (nI x1).toNatClampNeg 0) → ((x_10 = (24 : Int32) → V_X7_ranged N (r_7 + r_8) G (fun r_12 g_13 => post r_12 g_13)) ∧ (x_10 = (25 : Int32) → V_X7_ranged N (r_7 - r_8) G (fun r_14 g_15 => post r_14 g_15)) ∧ (x_10 = (26 : Int32) → V_X7_ranged N (r_7 * r_8) G (fun r_16 g_17 => post r_16 g_17)) ∧ (x_10 = (27 : Int32) → ((¬ r_8 = 0 → (¬ r_8 = 0 ∧ V_X7_ranged N (r_7 / r_8) G (fun r_19 g_20 => post r_19 g_20))) ∧ (r_8 = 0 → V_X7_failing N (5 : Int32) G (fun r_21 g_22 => post r_21 g_22)))) ∧ (x_10 = (28 : Int32) → ((r_8 ≤ r_7 → V_X7_truth (0 : Int32) (fun r_24 => post r_24 G)) ∧ (¬ r_8 ≤ r_7 → V_X7_truth (1 : Int32) (fun r_25 => post r_25 G)))) ∧ (x_10 = (29 : Int32) → V_X7_ranged N (r_7 &&& r_8) G (fun r_26 g_27 => post r_26 g_27)) ∧ (x_10 = (30 : Int32) → V_X7_ranged N (r_7 ||| r_8) G (fun r_28 g_29 => post r_28 g_29)) ∧ (x_10 = (31 : Int32) → V_X7_ranged N (r_7 ^^^ r_8) G (fun r_30 g_31 => post r_30 g_31)) ∧ (¬ x_10 = (24 : Int32) → ¬ x_10 = (25 : Int32) → ¬ x_10 = (26 : Int32) → ¬ x_10 = (27 : Int32) → ¬ x_10 = (28 : Int32) → ¬ x_10 = (29 : Int32) → ¬ x_10 = (30 : Int32) → ¬ x_10 = (31 : Int32) → V_X7_shifted N r_7 r_8 G (fun r_32 g_33 => post r_32 g_33)))))))) ∧ (¬ r_5 = (2 : Int32) → V_X7_failing N (4 : Int32) G (fun r_34 g_35 => post r_34 g_35)))))))
abbrev RM_X7_computed : Room := { frames := 2, cells := 0, slots := 0, locals := 45 }
set_option maxHeartbeats 4000000 in
set_option maxRecDepth 100000 in
theorem m_X7_computed (l : Launch) (D : va_G) (cI cC cZ cJ : ClassId) (ad : Nat → Nat) (N : Nat) (ea : Nat → Nat → Nat) (x1 : Nat) (x2 : Int32) (x3 : Int32) (G : SG) {post : Int32 → SG → Prop} (h : V_X7_computed N x1 x2 x3 G post) : MetIE ea l yX7_computed cX7_computed 6 .int RM_X7_computed D (ty4 cI cC cZ cJ) (wT ad cI cC cZ cJ N G) [.ref (ad 13), .ref (ea 0 x1), .int x2, .int x3] (fun u : SG => (wT ad cI cC cZ cJ N u)) post := by
  refine mkIE (by decide) (Nat.le_of_ble_eq_true rfl) ?_
  intro p e s m args below meth c A ls hC hr hlk hw hE hl
  have hx := hC.1
  have hb := hC.2.1
  have hl : lv_has ls 6 [(0, .ref (ad 13)), (1, .ref (ea 0 x1)), (2, .int x2), (3, .int x3)] := hl
  unfold V_X7_computed at h
  refine lv_iload_n hx hb dX7_computed_0 rfl (lv_at hl 2 rfl) ?_
  refine cSI ksX7_210 hC (m_X10_tag l x2 h) rfl rfl ⟨by decide, by decide⟩ rfl hl.1 (Nat.le_of_ble_eq_true rfl) dX7_computed_1 ⟨Nat.zero_le _, Nat.zero_le _⟩ rfl ?_
  intro r_1 h
  refine lv_iconst (v := (2 : Int32)) hx hb dX7_computed_4 (by decide) ?_
  refine lv_icmp_ne (tgt := 16) hx hb dX7_computed_5 (by decide) (fun c_2 => ?_) (fun c_2 => ?_)
  · have h := h.1 c_2
    refine lv_aload_n hx hb dX7_computed_16 rfl (lv_at hl 0 rfl) ?_
    refine lv_iconst (v := (4 : Int32)) hx hb dX7_computed_17 (by decide) ?_
    refine cVIwe kmX7_271 hC hw hE (m_X7_failing l D cI cC cZ cJ ad N ea (4 : Int32) G h) rfl rfl ⟨by decide, by decide⟩ (recvW hw rfl 13 rfl) rfl hl.1 (Nat.le_of_ble_eq_true rfl) dX7_computed_18 ⟨Nat.zero_le _, Nat.zero_le _⟩ rfl ?_
    intro r_3 g_4 H locs h hw
    exact rtI (wf := (fun u : SG => (wT ad cI cC cZ cJ N u))) g_4 hC hr hlk hw rfl h dX7_computed_21
  · have h := h.2 c_2
    refine lv_iload_n hx hb dX7_computed_8 rfl (lv_at hl 3 rfl) ?_
    refine cSI ksX7_210 hC (m_X10_tag l x3 h) rfl rfl ⟨by decide, by decide⟩ rfl hl.1 (Nat.le_of_ble_eq_true rfl) dX7_computed_9 ⟨Nat.zero_le _, Nat.zero_le _⟩ rfl ?_
    intro r_5 h
    refine lv_iconst (v := (2 : Int32)) hx hb dX7_computed_12 (by decide) ?_
    refine lv_icmp_eq (tgt := 22) hx hb dX7_computed_13 (by decide) (fun c_6 => ?_) (fun c_6 => ?_)
    · have h := h.1 c_6
      refine lv_iload_n hx hb dX7_computed_22 rfl (lv_at hl 2 rfl) ?_
      refine cSI ksX7_183 hC (m_X10_held l x2 h) rfl rfl ⟨by decide, by decide⟩ rfl hl.1 (Nat.le_of_ble_eq_true rfl) dX7_computed_23 ⟨Nat.zero_le _, Nat.zero_le _⟩ rfl ?_
      intro r_7 h
      refine lv_istore (lv' := [(4, .int r_7), (0, .ref (ad 13)), (1, .ref (ea 0 x1)), (2, .int x2), (3, .int x3)]) hx hb dX7_computed_26 hl (by decide) rfl (fun ls hl => ?_)
      refine lv_iload_n hx hb dX7_computed_28 rfl (lv_at hl 4 rfl) ?_
      refine cSI ksX7_183 hC (m_X10_held l x3 h) rfl rfl ⟨by decide, by decide⟩ rfl hl.1 (Nat.le_of_ble_eq_true rfl) dX7_computed_29 ⟨Nat.zero_le _, Nat.zero_le _⟩ rfl ?_
      intro r_8 h
      refine lv_istore (lv' := [(5, .int r_8), (4, .int r_7), (0, .ref (ad 13)), (1, .ref (ea 0 x1)), (2, .int x2), (3, .int x3)]) hx hb dX7_computed_32 hl (by decide) rfl (fun ls hl => ?_)
      refine gts kzX7_219 hC hw hE.2.2.2.1 dX7_computed_34 ?_
      refine lv_aload_n hx hb dX7_computed_37 rfl (lv_at hl 3 rfl) ?_
      refine cOrdG kordX7 rfl (by decide) hC hw hE h.1 (m_Jx29ce0_ordinal_8abf5 l D cI cC cZ cJ ea x1 (post := fun r => r = nI x1) ⟨h.1, rfl⟩) rfl rfl ⟨by decide, by decide⟩ hl.1 (Nat.le_of_ble_eq_true rfl) dX7_computed_38 ⟨Nat.zero_le _, Nat.zero_le _⟩ ?_
      have h := h.2
      intro H locs hw
      refine va_ti hx hb hE.2.2.2.2.1 hw.2.2.2.1 h.1 rfl dX7_computed_41 ?_
      have h := h.2
      refine lv_topi (fun x_10 ex_10 => ?_)
      have h := h x_10 ex_10
      by_cases c_11_24 : x_10 = (24 : Int32)
      · refine lv_tableIn (off := 46) (tgt := 88) hx hb dX7_computed_42 (by rw [c_11_24]; decide) (by rw [c_11_24]; decide) (by rw [c_11_24]; decide) (by decide) ?_
        have h := h.1 c_11_24
        refine lv_aload_n hx hb dX7_computed_88 rfl (lv_at hl 2 rfl) ?_
        refine lv_iload hx hb dX7_computed_89 (lv_at hl 1 rfl) ?_
        refine lv_iload hx hb dX7_computed_91 (lv_at hl 0 rfl) ?_
        refine lv_iadd hx hb dX7_computed_93 ?_
        refine cVIwe kmX7_280 hC hw hE (m_X7_ranged l D cI cC cZ cJ ad N ea (r_7 + r_8) G h) rfl rfl ⟨by decide, by decide⟩ (recvW hw rfl 13 rfl) rfl hl.1 (Nat.le_of_ble_eq_true rfl) dX7_computed_94 ⟨Nat.zero_le _, Nat.zero_le _⟩ rfl ?_
        intro r_12 g_13 H locs h hw
        exact rtI (wf := (fun u : SG => (wT ad cI cC cZ cJ N u))) g_13 hC hr hlk hw rfl h dX7_computed_97
      have h := h.2
      by_cases c_11_25 : x_10 = (25 : Int32)
      · refine lv_tableIn (off := 56) (tgt := 98) hx hb dX7_computed_42 (by rw [c_11_25]; decide) (by rw [c_11_25]; decide) (by rw [c_11_25]; decide) (by decide) ?_
        have h := h.1 c_11_25
        refine lv_aload_n hx hb dX7_computed_98 rfl (lv_at hl 2 rfl) ?_
        refine lv_iload hx hb dX7_computed_99 (lv_at hl 1 rfl) ?_
        refine lv_iload hx hb dX7_computed_101 (lv_at hl 0 rfl) ?_
        refine lv_isub hx hb dX7_computed_103 ?_
        refine cVIwe kmX7_280 hC hw hE (m_X7_ranged l D cI cC cZ cJ ad N ea (r_7 - r_8) G h) rfl rfl ⟨by decide, by decide⟩ (recvW hw rfl 13 rfl) rfl hl.1 (Nat.le_of_ble_eq_true rfl) dX7_computed_104 ⟨Nat.zero_le _, Nat.zero_le _⟩ rfl ?_
        intro r_14 g_15 H locs h hw
        exact rtI (wf := (fun u : SG => (wT ad cI cC cZ cJ N u))) g_15 hC hr hlk hw rfl h dX7_computed_107
      have h := h.2
      by_cases c_11_26 : x_10 = (26 : Int32)
      · refine lv_tableIn (off := 66) (tgt := 108) hx hb dX7_computed_42 (by rw [c_11_26]; decide) (by rw [c_11_26]; decide) (by rw [c_11_26]; decide) (by decide) ?_
        have h := h.1 c_11_26
        refine lv_aload_n hx hb dX7_computed_108 rfl (lv_at hl 2 rfl) ?_
        refine lv_iload hx hb dX7_computed_109 (lv_at hl 1 rfl) ?_
        refine lv_iload hx hb dX7_computed_111 (lv_at hl 0 rfl) ?_
        refine lv_imul hx hb dX7_computed_113 ?_
        refine cVIwe kmX7_280 hC hw hE (m_X7_ranged l D cI cC cZ cJ ad N ea (r_7 * r_8) G h) rfl rfl ⟨by decide, by decide⟩ (recvW hw rfl 13 rfl) rfl hl.1 (Nat.le_of_ble_eq_true rfl) dX7_computed_114 ⟨Nat.zero_le _, Nat.zero_le _⟩ rfl ?_
        intro r_16 g_17 H locs h hw
        exact rtI (wf := (fun u : SG => (wT ad cI cC cZ cJ N u))) g_17 hC hr hlk hw rfl h dX7_computed_117
      have h := h.2
      by_cases c_11_27 : x_10 = (27 : Int32)
      · refine lv_tableIn (off := 76) (tgt := 118) hx hb dX7_computed_42 (by rw [c_11_27]; decide) (by rw [c_11_27]; decide) (by rw [c_11_27]; decide) (by decide) ?_
        have h := h.1 c_11_27
        refine lv_iload hx hb dX7_computed_118 (lv_at hl 0 rfl) ?_
        refine lv_if_ne (tgt := 131) hx hb dX7_computed_120 (by decide) (fun c_18 => ?_) (fun c_18 => ?_)
        · have h := h.1 c_18
          refine lv_aload_n hx hb dX7_computed_131 rfl (lv_at hl 2 rfl) ?_
          refine lv_iload hx hb dX7_computed_132 (lv_at hl 1 rfl) ?_
          refine lv_iload hx hb dX7_computed_134 (lv_at hl 0 rfl) ?_
          refine lv_idiv hx hb dX7_computed_136 h.1 ?_
          have h := h.2
          refine cVIwe kmX7_280 hC hw hE (m_X7_ranged l D cI cC cZ cJ ad N ea (r_7 / r_8) G h) rfl rfl ⟨by decide, by decide⟩ (recvW hw rfl 13 rfl) rfl hl.1 (Nat.le_of_ble_eq_true rfl) dX7_computed_137 ⟨Nat.zero_le _, Nat.zero_le _⟩ rfl ?_
          intro r_19 g_20 H locs h hw
          exact rtI (wf := (fun u : SG => (wT ad cI cC cZ cJ N u))) g_20 hC hr hlk hw rfl h dX7_computed_140
        · have h := h.2 c_18
          refine lv_aload_n hx hb dX7_computed_123 rfl (lv_at hl 2 rfl) ?_
          refine lv_iconst (v := (5 : Int32)) hx hb dX7_computed_124 (by decide) ?_
          refine cVIwe kmX7_271 hC hw hE (m_X7_failing l D cI cC cZ cJ ad N ea (5 : Int32) G h) rfl rfl ⟨by decide, by decide⟩ (recvW hw rfl 13 rfl) rfl hl.1 (Nat.le_of_ble_eq_true rfl) dX7_computed_125 ⟨Nat.zero_le _, Nat.zero_le _⟩ rfl ?_
          intro r_21 g_22 H locs h hw
          refine lv_goto (tgt := 140) hx hb dX7_computed_128 (by decide) ?_
          exact rtI (wf := (fun u : SG => (wT ad cI cC cZ cJ N u))) g_22 hC hr hlk hw rfl h dX7_computed_140
      have h := h.2
      by_cases c_11_28 : x_10 = (28 : Int32)
      · refine lv_tableIn (off := 99) (tgt := 141) hx hb dX7_computed_42 (by rw [c_11_28]; decide) (by rw [c_11_28]; decide) (by rw [c_11_28]; decide) (by decide) ?_
        have h := h.1 c_11_28
        refine lv_iload hx hb dX7_computed_141 (lv_at hl 1 rfl) ?_
        refine lv_iload hx hb dX7_computed_143 (lv_at hl 0 rfl) ?_
        refine lv_icmp_ge (tgt := 152) hx hb dX7_computed_145 (by decide) (fun c_23 => ?_) (fun c_23 => ?_)
        · have h := h.1 c_23
          refine lv_iconst (v := (0 : Int32)) hx hb dX7_computed_152 (by decide) ?_
          refine cSI ksX7_240 hC (m_X7_truth l (0 : Int32) h) rfl rfl ⟨by decide, by decide⟩ rfl hl.1 (Nat.le_of_ble_eq_true rfl) dX7_computed_153 ⟨Nat.zero_le _, Nat.zero_le _⟩ rfl ?_
          intro r_24 h
          exact rtI (wf := (fun u : SG => (wT ad cI cC cZ cJ N u))) G hC hr hlk hw rfl h dX7_computed_156
        · have h := h.2 c_23
          refine lv_iconst (v := (1 : Int32)) hx hb dX7_computed_148 (by decide) ?_
          refine lv_goto (tgt := 153) hx hb dX7_computed_149 (by decide) ?_
          refine cSI ksX7_240 hC (m_X7_truth l (1 : Int32) h) rfl rfl ⟨by decide, by decide⟩ rfl hl.1 (Nat.le_of_ble_eq_true rfl) dX7_computed_153 ⟨Nat.zero_le _, Nat.zero_le _⟩ rfl ?_
          intro r_25 h
          exact rtI (wf := (fun u : SG => (wT ad cI cC cZ cJ N u))) G hC hr hlk hw rfl h dX7_computed_156
      have h := h.2
      by_cases c_11_29 : x_10 = (29 : Int32)
      · refine lv_tableIn (off := 115) (tgt := 157) hx hb dX7_computed_42 (by rw [c_11_29]; decide) (by rw [c_11_29]; decide) (by rw [c_11_29]; decide) (by decide) ?_
        have h := h.1 c_11_29
        refine lv_aload_n hx hb dX7_computed_157 rfl (lv_at hl 2 rfl) ?_
        refine lv_iload hx hb dX7_computed_158 (lv_at hl 1 rfl) ?_
        refine lv_iload hx hb dX7_computed_160 (lv_at hl 0 rfl) ?_
        refine lv_iand hx hb dX7_computed_162 ?_
        refine cVIwe kmX7_280 hC hw hE (m_X7_ranged l D cI cC cZ cJ ad N ea (r_7 &&& r_8) G h) rfl rfl ⟨by decide, by decide⟩ (recvW hw rfl 13 rfl) rfl hl.1 (Nat.le_of_ble_eq_true rfl) dX7_computed_163 ⟨Nat.zero_le _, Nat.zero_le _⟩ rfl ?_
        intro r_26 g_27 H locs h hw
        exact rtI (wf := (fun u : SG => (wT ad cI cC cZ cJ N u))) g_27 hC hr hlk hw rfl h dX7_computed_166
      have h := h.2
      by_cases c_11_30 : x_10 = (30 : Int32)
      · refine lv_tableIn (off := 125) (tgt := 167) hx hb dX7_computed_42 (by rw [c_11_30]; decide) (by rw [c_11_30]; decide) (by rw [c_11_30]; decide) (by decide) ?_
        have h := h.1 c_11_30
        refine lv_aload_n hx hb dX7_computed_167 rfl (lv_at hl 2 rfl) ?_
        refine lv_iload hx hb dX7_computed_168 (lv_at hl 1 rfl) ?_
        refine lv_iload hx hb dX7_computed_170 (lv_at hl 0 rfl) ?_
        refine lv_ior hx hb dX7_computed_172 ?_
        refine cVIwe kmX7_280 hC hw hE (m_X7_ranged l D cI cC cZ cJ ad N ea (r_7 ||| r_8) G h) rfl rfl ⟨by decide, by decide⟩ (recvW hw rfl 13 rfl) rfl hl.1 (Nat.le_of_ble_eq_true rfl) dX7_computed_173 ⟨Nat.zero_le _, Nat.zero_le _⟩ rfl ?_
        intro r_28 g_29 H locs h hw
        exact rtI (wf := (fun u : SG => (wT ad cI cC cZ cJ N u))) g_29 hC hr hlk hw rfl h dX7_computed_176
      have h := h.2
      by_cases c_11_31 : x_10 = (31 : Int32)
      · refine lv_tableIn (off := 135) (tgt := 177) hx hb dX7_computed_42 (by rw [c_11_31]; decide) (by rw [c_11_31]; decide) (by rw [c_11_31]; decide) (by decide) ?_
        have h := h.1 c_11_31
        refine lv_aload_n hx hb dX7_computed_177 rfl (lv_at hl 2 rfl) ?_
        refine lv_iload hx hb dX7_computed_178 (lv_at hl 1 rfl) ?_
        refine lv_iload hx hb dX7_computed_180 (lv_at hl 0 rfl) ?_
        refine lv_ixor hx hb dX7_computed_182 ?_
        refine cVIwe kmX7_280 hC hw hE (m_X7_ranged l D cI cC cZ cJ ad N ea (r_7 ^^^ r_8) G h) rfl rfl ⟨by decide, by decide⟩ (recvW hw rfl 13 rfl) rfl hl.1 (Nat.le_of_ble_eq_true rfl) dX7_computed_183 ⟨Nat.zero_le _, Nat.zero_le _⟩ rfl ?_
        intro r_30 g_31 H locs h hw
        exact rtI (wf := (fun u : SG => (wT ad cI cC cZ cJ N u))) g_31 hC hr hlk hw rfl h dX7_computed_186
      have h := h.2
      have nc_11_24 := lv_neT c_11_24 (a := 24) (by decide)
      have nc_11_25 := lv_neT c_11_25 (a := 25) (by decide)
      have nc_11_26 := lv_neT c_11_26 (a := 26) (by decide)
      have nc_11_27 := lv_neT c_11_27 (a := 27) (by decide)
      have nc_11_28 := lv_neT c_11_28 (a := 28) (by decide)
      have nc_11_29 := lv_neT c_11_29 (a := 29) (by decide)
      have nc_11_30 := lv_neT c_11_30 (a := 30) (by decide)
      have nc_11_31 := lv_neT c_11_31 (a := 31) (by decide)
      refine lv_tableOut (tgt := 187) hx hb dX7_computed_42 (by omega) (by decide) ?_
      have h := h c_11_24 c_11_25 c_11_26 c_11_27 c_11_28 c_11_29 c_11_30 c_11_31
      refine lv_aload_n hx hb dX7_computed_187 rfl (lv_at hl 2 rfl) ?_
      refine lv_iload hx hb dX7_computed_188 (lv_at hl 1 rfl) ?_
      refine lv_iload hx hb dX7_computed_190 (lv_at hl 0 rfl) ?_
      refine cVIwe kmX7_283 hC hw hE (m_X7_shifted l D cI cC cZ cJ ad N ea r_7 r_8 G h) rfl rfl ⟨by decide, by decide⟩ (recvW hw rfl 13 rfl) rfl hl.1 (Nat.le_of_ble_eq_true rfl) dX7_computed_192 ⟨Nat.zero_le _, Nat.zero_le _⟩ rfl ?_
      intro r_32 g_33 H locs h hw
      exact rtI (wf := (fun u : SG => (wT ad cI cC cZ cJ N u))) g_33 hC hr hlk hw rfl h dX7_computed_195
    · have h := h.2 c_6
      refine lv_aload_n hx hb dX7_computed_16 rfl (lv_at hl 0 rfl) ?_
      refine lv_iconst (v := (4 : Int32)) hx hb dX7_computed_17 (by decide) ?_
      refine cVIwe kmX7_271 hC hw hE (m_X7_failing l D cI cC cZ cJ ad N ea (4 : Int32) G h) rfl rfl ⟨by decide, by decide⟩ (recvW hw rfl 13 rfl) rfl hl.1 (Nat.le_of_ble_eq_true rfl) dX7_computed_18 ⟨Nat.zero_le _, Nat.zero_le _⟩ rfl ?_
      intro r_34 g_35 H locs h hw
      exact rtI (wf := (fun u : SG => (wT ad cI cC cZ cJ N u))) g_35 hC hr hlk hw rfl h dX7_computed_21
def V_X7_answerOf (N : Nat) (n : Nat) (x1 : Nat) (x2 : Int32) (G : SG) (post : Int32 → SG → Prop) : Prop := V_X8_peek 1550 (x2 - (1 : Int32)) (G 9) (fun r_1 u_3 => ∀ g_2 : SG, g_2 = uo G 9 u_3 → V_X8_peek 1550 (x2 - (2 : Int32)) (g_2 9) (fun r_4 u_6 => ∀ g_5 : SG, g_5 = uo g_2 9 u_6 → (x1 < 32 ∧ (vp_in (nI x1) 32 ∧ ∀ x_8 : Int32, x_8 = (SMAP.getD (nI x1).toNatClampNeg 0) → ((x_8 = (10 : Int32) → V_X7_partOf N r_1 (0 : Int32) g_5 (fun r_10 g_11 => post r_10 g_11)) ∧ (x_8 = (11 : Int32) → V_X7_partOf N r_1 (1 : Int32) g_5 (fun r_12 g_13 => post r_12 g_13)) ∧ (x_8 = (12 : Int32) → V_X7_newCell N r_1 r_4 g_5 (fun r_14 g_15 => post r_14 g_15)) ∧ (x_8 = (13 : Int32) → V_X7_newList N n x2 g_5 (fun r_16 g_17 => post r_16 g_17)) ∧ (x_8 = (14 : Int32) → V_X7_replaced N r_1 (0 : Int32) r_4 g_5 (fun r_18 g_19 => post r_18 g_19)) ∧ (x_8 = (15 : Int32) → V_X7_replaced N r_1 (1 : Int32) r_4 g_5 (fun r_20 g_21 => post r_20 g_21)) ∧ (x_8 = (16 : Int32) → V_X10_tag r_1 (fun r_22 => ((r_22 = (4 : Int32) → V_X7_truth (0 : Int32) (fun r_24 => post r_24 g_5)) ∧ (¬ r_22 = (4 : Int32) → V_X7_truth (1 : Int32) (fun r_25 => post r_25 g_5))))) ∧ (x_8 = (17 : Int32) → ((¬ r_1 = r_4 → V_X7_truth (0 : Int32) (fun r_27 => post r_27 g_5)) ∧ (r_1 = r_4 → V_X7_truth (1 : Int32) (fun r_28 => post r_28 g_5)))) ∧ (x_8 = (18 : Int32) → V_X7_newVector N n r_1 r_4 g_5 (fun r_29 g_30 => post r_29 g_30)) ∧ (x_8 = (19 : Int32) → V_X7_indexed N r_1 r_4 g_5 (fun r_31 g_32 => V_X2_at N r_31 (g_32 2) (fun r_33 u_35 => ∀ g_34 : SG, g_34 = uo g_32 2 u_35 → post r_33 g_34))) ∧ (x_8 = (20 : Int32) → V_X7_indexed N r_1 r_4 g_5 (fun r_36 g_37 => V_X8_peek 1550 (0 : Int32) (g_37 9) (fun r_38 u_40 => ∀ g_39 : SG, g_39 = uo g_37 9 u_40 → V_X2_put N r_36 r_38 (g_39 2) (fun u_43 => ∀ g_42 : SG, g_42 = uo g_39 2 u_43 → V_X8_peek 1550 (0 : Int32) (g_42 9) (fun r_44 u_46 => ∀ g_45 : SG, g_45 = uo g_42 9 u_46 → post r_44 g_45))))) ∧ (x_8 = (21 : Int32) → V_X7_lengthOf N r_1 g_5 (fun r_47 g_48 => post r_47 g_48)) ∧ (x_8 = (22 : Int32) → V_X4_write N n 10 r_1 (0 : Int32) g_5 (fun g_50 => V_X4_endLine N  g_50 (fun g_52 => post r_1 g_52))) ∧ (x_8 = (23 : Int32) → ((¬ (g_5 5 0 1) = 0 → V_X5_removeOldest 8  (g_5 5) (fun r_54 u_56 => ∀ g_55 : SG, g_55 = uo g_5 5 u_56 → V_X10_of (2 : Int32) r_54 (fun r_57 => post r_57 g_55))) ∧ ((g_5 5 0 1) = 0 → post (1 : Int32) g_5))) ∧ (¬ x_8 = (10 : Int32) → ¬ x_8 = (11 : Int32) → ¬ x_8 = (12 : Int32) → ¬ x_8 = (13 : Int32) → ¬ x_8 = (14 : Int32) → ¬ x_8 = (15 : Int32) → ¬ x_8 = (16 : Int32) → ¬ x_8 = (17 : Int32) → ¬ x_8 = (18 : Int32) → ¬ x_8 = (19 : Int32) → ¬ x_8 = (20 : Int32) → ¬ x_8 = (21 : Int32) → ¬ x_8 = (22 : Int32) → ¬ x_8 = (23 : Int32) → V_X7_computed N x1 r_1 r_4 g_5 (fun r_58 g_59 => post r_58 g_59)))))))
abbrev RM_X7_answerOf : Room := { frames := 91, cells := 0, slots := 0, locals := 2322 }
set_option maxHeartbeats 4000000 in
set_option maxRecDepth 100000 in
theorem m_X7_answerOf (l : Launch) (D : va_G) (cI cC cZ cJ : ClassId) (ad : Nat → Nat) (N : Nat) (ea : Nat → Nat → Nat) (n : Nat) (x1 : Nat) (x2 : Int32) (G : SG) {post : Int32 → SG → Prop} (h : V_X7_answerOf N n x1 x2 G post) : MetIE ea l yX7_answerOf cX7_answerOf 5 .int RM_X7_answerOf D (ty4 cI cC cZ cJ) (wT ad cI cC cZ cJ N G) [.ref (ad 13), .ref (ea 0 x1), .int x2] (fun u : SG => (wT ad cI cC cZ cJ N u)) post := by
  refine mkIE (by decide) (Nat.le_of_ble_eq_true rfl) ?_
  intro p e s m args below meth c A ls hC hr hlk hw hE hl
  have hx := hC.1
  have hb := hC.2.1
  have hl : lv_has ls 5 [(0, .ref (ad 13)), (1, .ref (ea 0 x1)), (2, .int x2)] := hl
  unfold V_X7_answerOf at h
  refine lv_aload_n hx hb dX7_answerOf_0 rfl (lv_at hl 0 rfl) ?_
  refine gt (v := .ref (ad 23)) kfX7_16 13 hC hw rfl rfl dX7_answerOf_1 ?_
  refine lv_iload_n hx hb dX7_answerOf_4 rfl (lv_at hl 2 rfl) ?_
  refine lv_iconst (v := (1 : Int32)) hx hb dX7_answerOf_5 (by decide) ?_
  refine lv_isub hx hb dX7_answerOf_6 ?_
  refine eI_wT_wSt_23 kmX7_99 hC hw (m_X8_peek l D cI cC cZ cJ (fun j => ad (23 + j)) 1550 (x2 - (1 : Int32)) (G 9) h) rfl rfl ⟨by decide, by decide⟩ rfl hl.1 (Nat.le_of_ble_eq_true rfl) dX7_answerOf_7 ⟨Nat.zero_le _, Nat.zero_le _⟩ rfl ?_
  intro r_1 u_3 g_2 H locs eg_2 h hw
  have h := h g_2 eg_2
  refine lv_istore_n (lv' := [(3, .int r_1), (0, .ref (ad 13)), (1, .ref (ea 0 x1)), (2, .int x2)]) hx hb dX7_answerOf_10 rfl hl (by decide) rfl (fun ls hl => ?_)
  refine lv_aload_n hx hb dX7_answerOf_11 rfl (lv_at hl 1 rfl) ?_
  refine gt (v := .ref (ad 23)) kfX7_16 13 hC hw rfl rfl dX7_answerOf_12 ?_
  refine lv_iload_n hx hb dX7_answerOf_15 rfl (lv_at hl 3 rfl) ?_
  refine lv_iconst (v := (2 : Int32)) hx hb dX7_answerOf_16 (by decide) ?_
  refine lv_isub hx hb dX7_answerOf_17 ?_
  refine eI_wT_wSt_23 kmX7_99 hC hw (m_X8_peek l D cI cC cZ cJ (fun j => ad (23 + j)) 1550 (x2 - (2 : Int32)) (g_2 9) h) rfl rfl ⟨by decide, by decide⟩ rfl hl.1 (Nat.le_of_ble_eq_true rfl) dX7_answerOf_18 ⟨Nat.zero_le _, Nat.zero_le _⟩ rfl ?_
  intro r_4 u_6 g_5 H locs eg_5 h hw
  have h := h g_5 eg_5
  refine lv_istore (lv' := [(4, .int r_4), (3, .int r_1), (0, .ref (ad 13)), (1, .ref (ea 0 x1)), (2, .int x2)]) hx hb dX7_answerOf_21 hl (by decide) rfl (fun ls hl => ?_)
  refine gts kzX7_219 hC hw hE.2.2.2.1 dX7_answerOf_23 ?_
  refine lv_aload_n hx hb dX7_answerOf_26 rfl (lv_at hl 3 rfl) ?_
  refine cOrdG kordX7 rfl (by decide) hC hw hE h.1 (m_Jx29ce0_ordinal_8abf5 l D cI cC cZ cJ ea x1 (post := fun r => r = nI x1) ⟨h.1, rfl⟩) rfl rfl ⟨by decide, by decide⟩ hl.1 (Nat.le_of_ble_eq_true rfl) dX7_answerOf_27 ⟨Nat.zero_le _, Nat.zero_le _⟩ ?_
  have h := h.2
  intro H locs hw
  refine va_ti hx hb hE.2.2.2.2.1 hw.2.2.2.1 h.1 rfl dX7_answerOf_30 ?_
  have h := h.2
  refine lv_topi (fun x_8 ex_8 => ?_)
  have h := h x_8 ex_8
  by_cases c_9_10 : x_8 = (10 : Int32)
  · refine lv_tableIn (off := 69) (tgt := 100) hx hb dX7_answerOf_31 (by rw [c_9_10]; decide) (by rw [c_9_10]; decide) (by rw [c_9_10]; decide) (by decide) ?_
    have h := h.1 c_9_10
    refine lv_aload_n hx hb dX7_answerOf_100 rfl (lv_at hl 2 rfl) ?_
    refine lv_iload_n hx hb dX7_answerOf_101 rfl (lv_at hl 1 rfl) ?_
    refine lv_iconst (v := (0 : Int32)) hx hb dX7_answerOf_102 (by decide) ?_
    refine cVIwe kmX7_227 hC hw hE (m_X7_partOf l D cI cC cZ cJ ad N ea r_1 (0 : Int32) g_5 h) rfl rfl ⟨by decide, by decide⟩ (recvW hw rfl 13 rfl) rfl hl.1 (Nat.le_of_ble_eq_true rfl) dX7_answerOf_103 ⟨Nat.zero_le _, Nat.zero_le _⟩ rfl ?_
    intro r_10 g_11 H locs h hw
    exact rtI (wf := (fun u : SG => (wT ad cI cC cZ cJ N u))) g_11 hC hr hlk hw rfl h dX7_answerOf_106
  have h := h.2
  by_cases c_9_11 : x_8 = (11 : Int32)
  · refine lv_tableIn (off := 76) (tgt := 107) hx hb dX7_answerOf_31 (by rw [c_9_11]; decide) (by rw [c_9_11]; decide) (by rw [c_9_11]; decide) (by decide) ?_
    have h := h.1 c_9_11
    refine lv_aload_n hx hb dX7_answerOf_107 rfl (lv_at hl 2 rfl) ?_
    refine lv_iload_n hx hb dX7_answerOf_108 rfl (lv_at hl 1 rfl) ?_
    refine lv_iconst (v := (1 : Int32)) hx hb dX7_answerOf_109 (by decide) ?_
    refine cVIwe kmX7_227 hC hw hE (m_X7_partOf l D cI cC cZ cJ ad N ea r_1 (1 : Int32) g_5 h) rfl rfl ⟨by decide, by decide⟩ (recvW hw rfl 13 rfl) rfl hl.1 (Nat.le_of_ble_eq_true rfl) dX7_answerOf_110 ⟨Nat.zero_le _, Nat.zero_le _⟩ rfl ?_
    intro r_12 g_13 H locs h hw
    exact rtI (wf := (fun u : SG => (wT ad cI cC cZ cJ N u))) g_13 hC hr hlk hw rfl h dX7_answerOf_113
  have h := h.2
  by_cases c_9_12 : x_8 = (12 : Int32)
  · refine lv_tableIn (off := 83) (tgt := 114) hx hb dX7_answerOf_31 (by rw [c_9_12]; decide) (by rw [c_9_12]; decide) (by rw [c_9_12]; decide) (by decide) ?_
    have h := h.1 c_9_12
    refine lv_aload_n hx hb dX7_answerOf_114 rfl (lv_at hl 2 rfl) ?_
    refine lv_iload_n hx hb dX7_answerOf_115 rfl (lv_at hl 1 rfl) ?_
    refine lv_iload hx hb dX7_answerOf_116 (lv_at hl 0 rfl) ?_
    refine cVIwe kmX7_230 hC hw hE (m_X7_newCell l D cI cC cZ cJ ad N ea r_1 r_4 g_5 h) rfl rfl ⟨by decide, by decide⟩ (recvW hw rfl 13 rfl) rfl hl.1 (Nat.le_of_ble_eq_true rfl) dX7_answerOf_118 ⟨Nat.zero_le _, Nat.zero_le _⟩ rfl ?_
    intro r_14 g_15 H locs h hw
    exact rtI (wf := (fun u : SG => (wT ad cI cC cZ cJ N u))) g_15 hC hr hlk hw rfl h dX7_answerOf_121
  have h := h.2
  by_cases c_9_13 : x_8 = (13 : Int32)
  · refine lv_tableIn (off := 91) (tgt := 122) hx hb dX7_answerOf_31 (by rw [c_9_13]; decide) (by rw [c_9_13]; decide) (by rw [c_9_13]; decide) (by decide) ?_
    have h := h.1 c_9_13
    refine lv_aload_n hx hb dX7_answerOf_122 rfl (lv_at hl 2 rfl) ?_
    refine lv_iload_n hx hb dX7_answerOf_123 rfl (lv_at hl 4 rfl) ?_
    refine cVIwe kmX7_233 hC hw hE (m_X7_newList l D cI cC cZ cJ ad N ea n x2 g_5 h) rfl rfl ⟨by decide, by decide⟩ (recvW hw rfl 13 rfl) rfl hl.1 (Nat.le_of_ble_eq_true rfl) dX7_answerOf_124 ⟨Nat.zero_le _, Nat.zero_le _⟩ rfl ?_
    intro r_16 g_17 H locs h hw
    exact rtI (wf := (fun u : SG => (wT ad cI cC cZ cJ N u))) g_17 hC hr hlk hw rfl h dX7_answerOf_127
  have h := h.2
  by_cases c_9_14 : x_8 = (14 : Int32)
  · refine lv_tableIn (off := 97) (tgt := 128) hx hb dX7_answerOf_31 (by rw [c_9_14]; decide) (by rw [c_9_14]; decide) (by rw [c_9_14]; decide) (by decide) ?_
    have h := h.1 c_9_14
    refine lv_aload_n hx hb dX7_answerOf_128 rfl (lv_at hl 2 rfl) ?_
    refine lv_iload_n hx hb dX7_answerOf_129 rfl (lv_at hl 1 rfl) ?_
    refine lv_iconst (v := (0 : Int32)) hx hb dX7_answerOf_130 (by decide) ?_
    refine lv_iload hx hb dX7_answerOf_131 (lv_at hl 0 rfl) ?_
    refine cVIwe kmX7_236 hC hw hE (m_X7_replaced l D cI cC cZ cJ ad N ea r_1 (0 : Int32) r_4 g_5 h) rfl rfl ⟨by decide, by decide⟩ (recvW hw rfl 13 rfl) rfl hl.1 (Nat.le_of_ble_eq_true rfl) dX7_answerOf_133 ⟨Nat.zero_le _, Nat.zero_le _⟩ rfl ?_
    intro r_18 g_19 H locs h hw
    exact rtI (wf := (fun u : SG => (wT ad cI cC cZ cJ N u))) g_19 hC hr hlk hw rfl h dX7_answerOf_136
  have h := h.2
  by_cases c_9_15 : x_8 = (15 : Int32)
  · refine lv_tableIn (off := 106) (tgt := 137) hx hb dX7_answerOf_31 (by rw [c_9_15]; decide) (by rw [c_9_15]; decide) (by rw [c_9_15]; decide) (by decide) ?_
    have h := h.1 c_9_15
    refine lv_aload_n hx hb dX7_answerOf_137 rfl (lv_at hl 2 rfl) ?_
    refine lv_iload_n hx hb dX7_answerOf_138 rfl (lv_at hl 1 rfl) ?_
    refine lv_iconst (v := (1 : Int32)) hx hb dX7_answerOf_139 (by decide) ?_
    refine lv_iload hx hb dX7_answerOf_140 (lv_at hl 0 rfl) ?_
    refine cVIwe kmX7_236 hC hw hE (m_X7_replaced l D cI cC cZ cJ ad N ea r_1 (1 : Int32) r_4 g_5 h) rfl rfl ⟨by decide, by decide⟩ (recvW hw rfl 13 rfl) rfl hl.1 (Nat.le_of_ble_eq_true rfl) dX7_answerOf_142 ⟨Nat.zero_le _, Nat.zero_le _⟩ rfl ?_
    intro r_20 g_21 H locs h hw
    exact rtI (wf := (fun u : SG => (wT ad cI cC cZ cJ N u))) g_21 hC hr hlk hw rfl h dX7_answerOf_145
  have h := h.2
  by_cases c_9_16 : x_8 = (16 : Int32)
  · refine lv_tableIn (off := 115) (tgt := 146) hx hb dX7_answerOf_31 (by rw [c_9_16]; decide) (by rw [c_9_16]; decide) (by rw [c_9_16]; decide) (by decide) ?_
    have h := h.1 c_9_16
    refine lv_iload_n hx hb dX7_answerOf_146 rfl (lv_at hl 1 rfl) ?_
    refine cSI ksX7_210 hC (m_X10_tag l r_1 h) rfl rfl ⟨by decide, by decide⟩ rfl hl.1 (Nat.le_of_ble_eq_true rfl) dX7_answerOf_147 ⟨Nat.zero_le _, Nat.zero_le _⟩ rfl ?_
    intro r_22 h
    refine lv_iconst (v := (4 : Int32)) hx hb dX7_answerOf_150 (by decide) ?_
    refine lv_icmp_eq (tgt := 158) hx hb dX7_answerOf_151 (by decide) (fun c_23 => ?_) (fun c_23 => ?_)
    · have h := h.1 c_23
      refine lv_iconst (v := (0 : Int32)) hx hb dX7_answerOf_158 (by decide) ?_
      refine cSI ksX7_240 hC (m_X7_truth l (0 : Int32) h) rfl rfl ⟨by decide, by decide⟩ rfl hl.1 (Nat.le_of_ble_eq_true rfl) dX7_answerOf_159 ⟨Nat.zero_le _, Nat.zero_le _⟩ rfl ?_
      intro r_24 h
      exact rtI (wf := (fun u : SG => (wT ad cI cC cZ cJ N u))) g_5 hC hr hlk hw rfl h dX7_answerOf_162
    · have h := h.2 c_23
      refine lv_iconst (v := (1 : Int32)) hx hb dX7_answerOf_154 (by decide) ?_
      refine lv_goto (tgt := 159) hx hb dX7_answerOf_155 (by decide) ?_
      refine cSI ksX7_240 hC (m_X7_truth l (1 : Int32) h) rfl rfl ⟨by decide, by decide⟩ rfl hl.1 (Nat.le_of_ble_eq_true rfl) dX7_answerOf_159 ⟨Nat.zero_le _, Nat.zero_le _⟩ rfl ?_
      intro r_25 h
      exact rtI (wf := (fun u : SG => (wT ad cI cC cZ cJ N u))) g_5 hC hr hlk hw rfl h dX7_answerOf_162
  have h := h.2
  by_cases c_9_17 : x_8 = (17 : Int32)
  · refine lv_tableIn (off := 132) (tgt := 163) hx hb dX7_answerOf_31 (by rw [c_9_17]; decide) (by rw [c_9_17]; decide) (by rw [c_9_17]; decide) (by decide) ?_
    have h := h.1 c_9_17
    refine lv_iload_n hx hb dX7_answerOf_163 rfl (lv_at hl 1 rfl) ?_
    refine lv_iload hx hb dX7_answerOf_164 (lv_at hl 0 rfl) ?_
    refine lv_icmp_ne (tgt := 173) hx hb dX7_answerOf_166 (by decide) (fun c_26 => ?_) (fun c_26 => ?_)
    · have h := h.1 c_26
      refine lv_iconst (v := (0 : Int32)) hx hb dX7_answerOf_173 (by decide) ?_
      refine cSI ksX7_240 hC (m_X7_truth l (0 : Int32) h) rfl rfl ⟨by decide, by decide⟩ rfl hl.1 (Nat.le_of_ble_eq_true rfl) dX7_answerOf_174 ⟨Nat.zero_le _, Nat.zero_le _⟩ rfl ?_
      intro r_27 h
      exact rtI (wf := (fun u : SG => (wT ad cI cC cZ cJ N u))) g_5 hC hr hlk hw rfl h dX7_answerOf_177
    · have h := h.2 c_26
      refine lv_iconst (v := (1 : Int32)) hx hb dX7_answerOf_169 (by decide) ?_
      refine lv_goto (tgt := 174) hx hb dX7_answerOf_170 (by decide) ?_
      refine cSI ksX7_240 hC (m_X7_truth l (1 : Int32) h) rfl rfl ⟨by decide, by decide⟩ rfl hl.1 (Nat.le_of_ble_eq_true rfl) dX7_answerOf_174 ⟨Nat.zero_le _, Nat.zero_le _⟩ rfl ?_
      intro r_28 h
      exact rtI (wf := (fun u : SG => (wT ad cI cC cZ cJ N u))) g_5 hC hr hlk hw rfl h dX7_answerOf_177
  have h := h.2
  by_cases c_9_18 : x_8 = (18 : Int32)
  · refine lv_tableIn (off := 147) (tgt := 178) hx hb dX7_answerOf_31 (by rw [c_9_18]; decide) (by rw [c_9_18]; decide) (by rw [c_9_18]; decide) (by decide) ?_
    have h := h.1 c_9_18
    refine lv_aload_n hx hb dX7_answerOf_178 rfl (lv_at hl 2 rfl) ?_
    refine lv_iload_n hx hb dX7_answerOf_179 rfl (lv_at hl 1 rfl) ?_
    refine lv_iload hx hb dX7_answerOf_180 (lv_at hl 0 rfl) ?_
    refine cVIwe kmX7_244 hC hw hE (m_X7_newVector l D cI cC cZ cJ ad N ea n r_1 r_4 g_5 h) rfl rfl ⟨by decide, by decide⟩ (recvW hw rfl 13 rfl) rfl hl.1 (Nat.le_of_ble_eq_true rfl) dX7_answerOf_182 ⟨Nat.zero_le _, Nat.zero_le _⟩ rfl ?_
    intro r_29 g_30 H locs h hw
    exact rtI (wf := (fun u : SG => (wT ad cI cC cZ cJ N u))) g_30 hC hr hlk hw rfl h dX7_answerOf_185
  have h := h.2
  by_cases c_9_19 : x_8 = (19 : Int32)
  · refine lv_tableIn (off := 155) (tgt := 186) hx hb dX7_answerOf_31 (by rw [c_9_19]; decide) (by rw [c_9_19]; decide) (by rw [c_9_19]; decide) (by decide) ?_
    have h := h.1 c_9_19
    refine lv_aload_n hx hb dX7_answerOf_186 rfl (lv_at hl 2 rfl) ?_
    refine gt (v := .ref (ad 6)) kfX7_26 13 hC hw rfl rfl dX7_answerOf_187 ?_
    refine lv_aload_n hx hb dX7_answerOf_190 rfl (lv_at hl 2 rfl) ?_
    refine lv_iload_n hx hb dX7_answerOf_191 rfl (lv_at hl 1 rfl) ?_
    refine lv_iload hx hb dX7_answerOf_192 (lv_at hl 0 rfl) ?_
    refine cVIwe kmX7_247 hC hw hE (m_X7_indexed l D cI cC cZ cJ ad N ea r_1 r_4 g_5 h) rfl rfl ⟨by decide, by decide⟩ (recvW hw rfl 13 rfl) rfl hl.1 (Nat.le_of_ble_eq_true rfl) dX7_answerOf_194 ⟨Nat.zero_le _, Nat.zero_le _⟩ rfl ?_
    intro r_31 g_32 H locs h hw
    refine eI_wT_wHp_6 kmX7_152 hC hw (m_X2_at l D cI cC cZ cJ (fun j => ad (6 + j)) N r_31 (g_32 2) h) rfl rfl ⟨by decide, by decide⟩ rfl hl.1 (Nat.le_of_ble_eq_true rfl) dX7_answerOf_197 ⟨Nat.zero_le _, Nat.zero_le _⟩ rfl ?_
    intro r_33 u_35 g_34 H locs eg_34 h hw
    have h := h g_34 eg_34
    exact rtI (wf := (fun u : SG => (wT ad cI cC cZ cJ N u))) g_34 hC hr hlk hw rfl h dX7_answerOf_200
  have h := h.2
  by_cases c_9_20 : x_8 = (20 : Int32)
  · refine lv_tableIn (off := 170) (tgt := 201) hx hb dX7_answerOf_31 (by rw [c_9_20]; decide) (by rw [c_9_20]; decide) (by rw [c_9_20]; decide) (by decide) ?_
    have h := h.1 c_9_20
    refine lv_aload_n hx hb dX7_answerOf_201 rfl (lv_at hl 2 rfl) ?_
    refine gt (v := .ref (ad 6)) kfX7_26 13 hC hw rfl rfl dX7_answerOf_202 ?_
    refine lv_aload_n hx hb dX7_answerOf_205 rfl (lv_at hl 2 rfl) ?_
    refine lv_iload_n hx hb dX7_answerOf_206 rfl (lv_at hl 1 rfl) ?_
    refine lv_iload hx hb dX7_answerOf_207 (lv_at hl 0 rfl) ?_
    refine cVIwe kmX7_247 hC hw hE (m_X7_indexed l D cI cC cZ cJ ad N ea r_1 r_4 g_5 h) rfl rfl ⟨by decide, by decide⟩ (recvW hw rfl 13 rfl) rfl hl.1 (Nat.le_of_ble_eq_true rfl) dX7_answerOf_209 ⟨Nat.zero_le _, Nat.zero_le _⟩ rfl ?_
    intro r_36 g_37 H locs h hw
    refine lv_aload_n hx hb dX7_answerOf_212 rfl (lv_at hl 2 rfl) ?_
    refine gt (v := .ref (ad 23)) kfX7_16 13 hC hw rfl rfl dX7_answerOf_213 ?_
    refine lv_iconst (v := (0 : Int32)) hx hb dX7_answerOf_216 (by decide) ?_
    refine eI_wT_wSt_23 kmX7_99 hC hw (m_X8_peek l D cI cC cZ cJ (fun j => ad (23 + j)) 1550 (0 : Int32) (g_37 9) h) rfl rfl ⟨by decide, by decide⟩ rfl hl.1 (Nat.le_of_ble_eq_true rfl) dX7_answerOf_217 ⟨Nat.zero_le _, Nat.zero_le _⟩ rfl ?_
    intro r_38 u_40 g_39 H locs eg_39 h hw
    have h := h g_39 eg_39
    refine eV_wT_wHp_6 kmX7_153 hC hw (m_X2_put l D cI cC cZ cJ (fun j => ad (6 + j)) N r_36 r_38 (g_39 2) h) rfl rfl ⟨by decide, by decide⟩ rfl hl.1 (Nat.le_of_ble_eq_true rfl) dX7_answerOf_220 ⟨Nat.zero_le _, Nat.zero_le _⟩ rfl ?_
    intro u_43 g_42 H locs eg_42 h hw
    have h := h g_42 eg_42
    refine lv_aload_n hx hb dX7_answerOf_223 rfl (lv_at hl 2 rfl) ?_
    refine gt (v := .ref (ad 23)) kfX7_16 13 hC hw rfl rfl dX7_answerOf_224 ?_
    refine lv_iconst (v := (0 : Int32)) hx hb dX7_answerOf_227 (by decide) ?_
    refine eI_wT_wSt_23 kmX7_99 hC hw (m_X8_peek l D cI cC cZ cJ (fun j => ad (23 + j)) 1550 (0 : Int32) (g_42 9) h) rfl rfl ⟨by decide, by decide⟩ rfl hl.1 (Nat.le_of_ble_eq_true rfl) dX7_answerOf_228 ⟨Nat.zero_le _, Nat.zero_le _⟩ rfl ?_
    intro r_44 u_46 g_45 H locs eg_45 h hw
    have h := h g_45 eg_45
    exact rtI (wf := (fun u : SG => (wT ad cI cC cZ cJ N u))) g_45 hC hr hlk hw rfl h dX7_answerOf_231
  have h := h.2
  by_cases c_9_21 : x_8 = (21 : Int32)
  · refine lv_tableIn (off := 201) (tgt := 232) hx hb dX7_answerOf_31 (by rw [c_9_21]; decide) (by rw [c_9_21]; decide) (by rw [c_9_21]; decide) (by decide) ?_
    have h := h.1 c_9_21
    refine lv_aload_n hx hb dX7_answerOf_232 rfl (lv_at hl 2 rfl) ?_
    refine lv_iload_n hx hb dX7_answerOf_233 rfl (lv_at hl 1 rfl) ?_
    refine cVIwe kmX7_250 hC hw hE (m_X7_lengthOf l D cI cC cZ cJ ad N ea r_1 g_5 h) rfl rfl ⟨by decide, by decide⟩ (recvW hw rfl 13 rfl) rfl hl.1 (Nat.le_of_ble_eq_true rfl) dX7_answerOf_234 ⟨Nat.zero_le _, Nat.zero_le _⟩ rfl ?_
    intro r_47 g_48 H locs h hw
    exact rtI (wf := (fun u : SG => (wT ad cI cC cZ cJ N u))) g_48 hC hr hlk hw rfl h dX7_answerOf_237
  have h := h.2
  by_cases c_9_22 : x_8 = (22 : Int32)
  · refine lv_tableIn (off := 207) (tgt := 238) hx hb dX7_answerOf_31 (by rw [c_9_22]; decide) (by rw [c_9_22]; decide) (by rw [c_9_22]; decide) (by decide) ?_
    have h := h.1 c_9_22
    refine lv_aload_n hx hb dX7_answerOf_238 rfl (lv_at hl 2 rfl) ?_
    refine gt (v := .ref (ad 18)) kfX7_38 13 hC hw rfl rfl dX7_answerOf_239 ?_
    refine lv_iload_n hx hb dX7_answerOf_242 rfl (lv_at hl 1 rfl) ?_
    refine lv_iconst (v := (0 : Int32)) hx hb dX7_answerOf_243 (by decide) ?_
    refine cVVwe kmX7_253 hC hw hE (m_X4_write l D cI cC cZ cJ ad N ea n 10 r_1 (0 : Int32) g_5 h) rfl rfl ⟨by decide, by decide⟩ (recvW hw rfl 18 rfl) rfl hl.1 (Nat.le_of_ble_eq_true rfl) dX7_answerOf_244 ⟨Nat.zero_le _, Nat.zero_le _⟩ rfl ?_
    intro g_50 H locs h hw
    refine lv_aload_n hx hb dX7_answerOf_247 rfl (lv_at hl 2 rfl) ?_
    refine gt (v := .ref (ad 18)) kfX7_38 13 hC hw rfl rfl dX7_answerOf_248 ?_
    refine cVVwe kmX7_258 hC hw hE (m_X4_endLine l D cI cC cZ cJ ad N ea  g_50 h) rfl rfl ⟨by decide, by decide⟩ (recvW hw rfl 18 rfl) rfl hl.1 (Nat.le_of_ble_eq_true rfl) dX7_answerOf_251 ⟨Nat.zero_le _, Nat.zero_le _⟩ rfl ?_
    intro g_52 H locs h hw
    refine lv_iload_n hx hb dX7_answerOf_254 rfl (lv_at hl 1 rfl) ?_
    exact rtI (wf := (fun u : SG => (wT ad cI cC cZ cJ N u))) g_52 hC hr hlk hw rfl h dX7_answerOf_255
  have h := h.2
  by_cases c_9_23 : x_8 = (23 : Int32)
  · refine lv_tableIn (off := 225) (tgt := 256) hx hb dX7_answerOf_31 (by rw [c_9_23]; decide) (by rw [c_9_23]; decide) (by rw [c_9_23]; decide) (by decide) ?_
    have h := h.1 c_9_23
    refine lv_aload_n hx hb dX7_answerOf_256 rfl (lv_at hl 2 rfl) ?_
    refine gt (v := .ref (ad 14)) kfX7_34 13 hC hw rfl rfl dX7_answerOf_257 ?_
    refine gt (v := .int (g_5 5 0 1)) kfX7_261 14 hC hw rfl rfl dX7_answerOf_260 ?_
    refine lv_if_ne (tgt := 270) hx hb dX7_answerOf_263 (by decide) (fun c_53 => ?_) (fun c_53 => ?_)
    · have h := h.1 c_53
      refine lv_iconst (v := (2 : Int32)) hx hb dX7_answerOf_270 (by decide) ?_
      refine lv_aload_n hx hb dX7_answerOf_271 rfl (lv_at hl 2 rfl) ?_
      refine gt (v := .ref (ad 14)) kfX7_34 13 hC hw rfl rfl dX7_answerOf_272 ?_
      refine eI_wT_wQu_14 kmX7_264 hC hw (m_X5_removeOldest l D cI cC cZ cJ (fun j => ad (14 + j)) 8  (g_5 5) h) rfl rfl ⟨by decide, by decide⟩ rfl hl.1 (Nat.le_of_ble_eq_true rfl) dX7_answerOf_275 ⟨Nat.zero_le _, Nat.zero_le _⟩ rfl ?_
      intro r_54 u_56 g_55 H locs eg_55 h hw
      have h := h g_55 eg_55
      refine cSI ksX7_206 hC (m_X10_of l (2 : Int32) r_54 h) rfl rfl ⟨by decide, by decide⟩ rfl hl.1 (Nat.le_of_ble_eq_true rfl) dX7_answerOf_278 ⟨Nat.zero_le _, Nat.zero_le _⟩ rfl ?_
      intro r_57 h
      exact rtI (wf := (fun u : SG => (wT ad cI cC cZ cJ N u))) g_55 hC hr hlk hw rfl h dX7_answerOf_281
    · have h := h.2 c_53
      refine lv_iconst (v := (1 : Int32)) hx hb dX7_answerOf_266 (by decide) ?_
      refine lv_goto (tgt := 281) hx hb dX7_answerOf_267 (by decide) ?_
      exact rtI (wf := (fun u : SG => (wT ad cI cC cZ cJ N u))) g_5 hC hr hlk hw rfl h dX7_answerOf_281
  have h := h.2
  have nc_9_10 := lv_neT c_9_10 (a := 10) (by decide)
  have nc_9_11 := lv_neT c_9_11 (a := 11) (by decide)
  have nc_9_12 := lv_neT c_9_12 (a := 12) (by decide)
  have nc_9_13 := lv_neT c_9_13 (a := 13) (by decide)
  have nc_9_14 := lv_neT c_9_14 (a := 14) (by decide)
  have nc_9_15 := lv_neT c_9_15 (a := 15) (by decide)
  have nc_9_16 := lv_neT c_9_16 (a := 16) (by decide)
  have nc_9_17 := lv_neT c_9_17 (a := 17) (by decide)
  have nc_9_18 := lv_neT c_9_18 (a := 18) (by decide)
  have nc_9_19 := lv_neT c_9_19 (a := 19) (by decide)
  have nc_9_20 := lv_neT c_9_20 (a := 20) (by decide)
  have nc_9_21 := lv_neT c_9_21 (a := 21) (by decide)
  have nc_9_22 := lv_neT c_9_22 (a := 22) (by decide)
  have nc_9_23 := lv_neT c_9_23 (a := 23) (by decide)
  refine lv_tableOut (tgt := 282) hx hb dX7_answerOf_31 (by omega) (by decide) ?_
  have h := h c_9_10 c_9_11 c_9_12 c_9_13 c_9_14 c_9_15 c_9_16 c_9_17 c_9_18 c_9_19 c_9_20 c_9_21 c_9_22 c_9_23
  refine lv_aload_n hx hb dX7_answerOf_282 rfl (lv_at hl 2 rfl) ?_
  refine lv_aload_n hx hb dX7_answerOf_283 rfl (lv_at hl 3 rfl) ?_
  refine lv_iload_n hx hb dX7_answerOf_284 rfl (lv_at hl 1 rfl) ?_
  refine lv_iload hx hb dX7_answerOf_285 (lv_at hl 0 rfl) ?_
  refine cVIwe kmX7_267 hC hw hE (m_X7_computed l D cI cC cZ cJ ad N ea x1 r_1 r_4 g_5 h) rfl rfl ⟨by decide, by decide⟩ (recvW hw rfl 13 rfl) rfl hl.1 (Nat.le_of_ble_eq_true rfl) dX7_answerOf_287 ⟨Nat.zero_le _, Nat.zero_le _⟩ rfl ?_
  intro r_58 g_59 H locs h hw
  exact rtI (wf := (fun u : SG => (wT ad cI cC cZ cJ N u))) g_59 hC hr hlk hw rfl h dX7_answerOf_290
def V_X7_settle (N : Nat) (x1 : Int32) (x2 : Int32) (G : SG) (post : SG → Prop) : Prop := ((¬ (G 4 0 2) = 0 → post G) ∧ ((G 4 0 2) = 0 → ((¬ (G 4 0 3) = 0 → post G) ∧ ((G 4 0 3) = 0 → V_X8_cut 1550 ((G 9 0 0) - x2) (G 9) (fun u_5 => ∀ g_4 : SG, g_4 = uo G 9 u_5 → V_X8_push 1550 x1 (g_4 9) (fun u_8 => ∀ g_7 : SG, g_7 = uo g_4 9 u_8 → post g_7))))))
abbrev RM_X7_settle : Room := { frames := 1, cells := 0, slots := 0, locals := 21 }
set_option maxHeartbeats 4000000 in
set_option maxRecDepth 100000 in
theorem m_X7_settle (l : Launch) (D : va_G) (cI cC cZ cJ : ClassId) (ad : Nat → Nat) (N : Nat) (ea : Nat → Nat → Nat) (x1 : Int32) (x2 : Int32) (G : SG) {post : SG → Prop} (h : V_X7_settle N x1 x2 G post) : MetVE ea l yX7_settle cX7_settle 3 RM_X7_settle D (ty4 cI cC cZ cJ) (wT ad cI cC cZ cJ N G) [.ref (ad 13), .int x1, .int x2] (fun u : SG => (wT ad cI cC cZ cJ N u)) post := by
  refine mkVE (by decide) (Nat.le_of_ble_eq_true rfl) ?_
  intro p e s m args below meth c A ls hC hr hlk hw hE hl
  have hx := hC.1
  have hb := hC.2.1
  have hl : lv_has ls 3 [(0, .ref (ad 13)), (1, .int x1), (2, .int x2)] := hl
  unfold V_X7_settle at h
  refine lv_aload_n hx hb dX7_settle_0 rfl (lv_at hl 0 rfl) ?_
  refine gt (v := .int (G 4 0 2)) kfX7_67 13 hC hw rfl rfl dX7_settle_1 ?_
  refine lv_if_ne (tgt := 38) hx hb dX7_settle_4 (by decide) (fun c_1 => ?_) (fun c_1 => ?_)
  · have h := h.1 c_1
    exact rtV (wf := (fun u : SG => (wT ad cI cC cZ cJ N u))) G hC hr hlk hw h dX7_settle_38
  · have h := h.2 c_1
    refine lv_aload_n hx hb dX7_settle_7 rfl (lv_at hl 0 rfl) ?_
    refine gt (v := .int (G 4 0 3)) kfX7_73 13 hC hw rfl rfl dX7_settle_8 ?_
    refine lv_if_ne (tgt := 38) hx hb dX7_settle_11 (by decide) (fun c_2 => ?_) (fun c_2 => ?_)
    · have h := h.1 c_2
      exact rtV (wf := (fun u : SG => (wT ad cI cC cZ cJ N u))) G hC hr hlk hw h dX7_settle_38
    · have h := h.2 c_2
      refine lv_aload_n hx hb dX7_settle_14 rfl (lv_at hl 0 rfl) ?_
      refine gt (v := .ref (ad 23)) kfX7_16 13 hC hw rfl rfl dX7_settle_15 ?_
      refine lv_aload_n hx hb dX7_settle_18 rfl (lv_at hl 0 rfl) ?_
      refine gt (v := .ref (ad 23)) kfX7_16 13 hC hw rfl rfl dX7_settle_19 ?_
      refine gt (v := .int (G 9 0 0)) kfX7_127 23 hC hw rfl rfl dX7_settle_22 ?_
      refine lv_iload_n hx hb dX7_settle_25 rfl (lv_at hl 2 rfl) ?_
      refine lv_isub hx hb dX7_settle_26 ?_
      refine eV_wT_wSt_23 kmX7_109 hC hw (m_X8_cut l D cI cC cZ cJ (fun j => ad (23 + j)) 1550 ((G 9 0 0) - x2) (G 9) h) rfl rfl ⟨by decide, by decide⟩ rfl hl.1 (Nat.le_of_ble_eq_true rfl) dX7_settle_27 ⟨Nat.zero_le _, Nat.zero_le _⟩ rfl ?_
      intro u_5 g_4 H locs eg_4 h hw
      have h := h g_4 eg_4
      refine lv_aload_n hx hb dX7_settle_30 rfl (lv_at hl 0 rfl) ?_
      refine gt (v := .ref (ad 23)) kfX7_16 13 hC hw rfl rfl dX7_settle_31 ?_
      refine lv_iload_n hx hb dX7_settle_34 rfl (lv_at hl 1 rfl) ?_
      refine eV_wT_wSt_23 kmX7_143 hC hw (m_X8_push l D cI cC cZ cJ (fun j => ad (23 + j)) 1550 x1 (g_4 9) h) rfl rfl ⟨by decide, by decide⟩ rfl hl.1 (Nat.le_of_ble_eq_true rfl) dX7_settle_35 ⟨Nat.zero_le _, Nat.zero_le _⟩ rfl ?_
      intro u_8 g_7 H locs eg_7 h hw
      have h := h g_7 eg_7
      exact rtV (wf := (fun u : SG => (wT ad cI cC cZ cJ N u))) g_7 hC hr hlk hw h dX7_settle_38
def V_X7_makeClosure (N : Nat) (x1 : Int32) (G : SG) (post : SG → Prop) : Prop := V_X7_isRoomFor N (2 : Int32) G (fun r_1 g_2 => ((¬ r_1 = 0 → V_X2_make N (2 : Int32) (g_2 2) (fun r_4 u_6 => ∀ g_5 : SG, g_5 = uo g_2 2 u_6 → V_X10_of (2 : Int32) (g_5 4 0 0) (fun r_7 => V_X2_put N r_4 r_7 (g_5 2) (fun u_10 => ∀ g_9 : SG, g_9 = uo g_5 2 u_10 → V_X7_frameHere N  g_9 (fun r_11 g_12 => V_X2_put N (r_4 + (1 : Int32)) r_11 (g_12 2) (fun u_15 => ∀ g_14 : SG, g_14 = uo g_12 2 u_15 → V_X10_of (6 : Int32) r_4 (fun r_16 => V_X8_push 1550 r_16 (g_14 9) (fun u_19 => ∀ g_18 : SG, g_18 = uo g_14 9 u_19 → ∀ g_20 : SG, g_20 = uo g_18 4 (us (g_18 4) 0 x1) → post g_20)))))))) ∧ (r_1 = 0 → post g_2)))
abbrev RM_X7_makeClosure : Room := { frames := 3, cells := 0, slots := 0, locals := 62 }
set_option maxHeartbeats 4000000 in
set_option maxRecDepth 100000 in
theorem m_X7_makeClosure (l : Launch) (D : va_G) (cI cC cZ cJ : ClassId) (ad : Nat → Nat) (N : Nat) (ea : Nat → Nat → Nat) (x1 : Int32) (G : SG) {post : SG → Prop} (h : V_X7_makeClosure N x1 G post) : MetVE ea l yX7_makeClosure cX7_makeClosure 3 RM_X7_makeClosure D (ty4 cI cC cZ cJ) (wT ad cI cC cZ cJ N G) [.ref (ad 13), .int x1] (fun u : SG => (wT ad cI cC cZ cJ N u)) post := by
  refine mkVE (by decide) (Nat.le_of_ble_eq_true rfl) ?_
  intro p e s m args below meth c A ls hC hr hlk hw hE hl
  have hx := hC.1
  have hb := hC.2.1
  have hl : lv_has ls 3 [(0, .ref (ad 13)), (1, .int x1)] := hl
  unfold V_X7_makeClosure at h
  refine lv_aload_n hx hb dX7_makeClosure_0 rfl (lv_at hl 0 rfl) ?_
  refine lv_iconst (v := (2 : Int32)) hx hb dX7_makeClosure_1 (by decide) ?_
  refine cVIwe kmX7_200 hC hw hE (m_X7_isRoomFor l D cI cC cZ cJ ad N ea (2 : Int32) G h) rfl rfl ⟨by decide, by decide⟩ (recvW hw rfl 13 rfl) rfl hl.1 (Nat.le_of_ble_eq_true rfl) dX7_makeClosure_2 ⟨Nat.zero_le _, Nat.zero_le _⟩ rfl ?_
  intro r_1 g_2 H locs h hw
  refine lv_if_ne (tgt := 9) hx hb dX7_makeClosure_5 (by decide) (fun c_3 => ?_) (fun c_3 => ?_)
  · have h := h.1 c_3
    refine lv_aload_n hx hb dX7_makeClosure_9 rfl (lv_at hl 0 rfl) ?_
    refine gt (v := .ref (ad 6)) kfX7_26 13 hC hw rfl rfl dX7_makeClosure_10 ?_
    refine lv_iconst (v := (2 : Int32)) hx hb dX7_makeClosure_13 (by decide) ?_
    refine eI_wT_wHp_6 kmX7_203 hC hw (m_X2_make l D cI cC cZ cJ (fun j => ad (6 + j)) N (2 : Int32) (g_2 2) h) rfl rfl ⟨by decide, by decide⟩ rfl hl.1 (Nat.le_of_ble_eq_true rfl) dX7_makeClosure_14 ⟨Nat.zero_le _, Nat.zero_le _⟩ rfl ?_
    intro r_4 u_6 g_5 H locs eg_5 h hw
    have h := h g_5 eg_5
    refine lv_istore_n (lv' := [(2, .int r_4), (0, .ref (ad 13)), (1, .int x1)]) hx hb dX7_makeClosure_17 rfl hl (by decide) rfl (fun ls hl => ?_)
    refine lv_aload_n hx hb dX7_makeClosure_18 rfl (lv_at hl 1 rfl) ?_
    refine gt (v := .ref (ad 6)) kfX7_26 13 hC hw rfl rfl dX7_makeClosure_19 ?_
    refine lv_iload_n hx hb dX7_makeClosure_22 rfl (lv_at hl 0 rfl) ?_
    refine lv_iconst (v := (2 : Int32)) hx hb dX7_makeClosure_23 (by decide) ?_
    refine lv_aload_n hx hb dX7_makeClosure_24 rfl (lv_at hl 1 rfl) ?_
    refine gt (v := .int (g_5 4 0 0)) kfX7_70 13 hC hw rfl rfl dX7_makeClosure_25 ?_
    refine cSI ksX7_206 hC (m_X10_of l (2 : Int32) (g_5 4 0 0) h) rfl rfl ⟨by decide, by decide⟩ rfl hl.1 (Nat.le_of_ble_eq_true rfl) dX7_makeClosure_28 ⟨Nat.zero_le _, Nat.zero_le _⟩ rfl ?_
    intro r_7 h
    refine eV_wT_wHp_6 kmX7_153 hC hw (m_X2_put l D cI cC cZ cJ (fun j => ad (6 + j)) N r_4 r_7 (g_5 2) h) rfl rfl ⟨by decide, by decide⟩ rfl hl.1 (Nat.le_of_ble_eq_true rfl) dX7_makeClosure_31 ⟨Nat.zero_le _, Nat.zero_le _⟩ rfl ?_
    intro u_10 g_9 H locs eg_9 h hw
    have h := h g_9 eg_9
    refine lv_aload_n hx hb dX7_makeClosure_34 rfl (lv_at hl 1 rfl) ?_
    refine gt (v := .ref (ad 6)) kfX7_26 13 hC hw rfl rfl dX7_makeClosure_35 ?_
    refine lv_iload_n hx hb dX7_makeClosure_38 rfl (lv_at hl 0 rfl) ?_
    refine lv_iconst (v := (1 : Int32)) hx hb dX7_makeClosure_39 (by decide) ?_
    refine lv_iadd hx hb dX7_makeClosure_40 ?_
    refine lv_aload_n hx hb dX7_makeClosure_41 rfl (lv_at hl 1 rfl) ?_
    refine cVIwe kmX7_197 hC hw hE (m_X7_frameHere l D cI cC cZ cJ ad N ea  g_9 h) rfl rfl ⟨by decide, by decide⟩ (recvW hw rfl 13 rfl) rfl hl.1 (Nat.le_of_ble_eq_true rfl) dX7_makeClosure_42 ⟨Nat.zero_le _, Nat.zero_le _⟩ rfl ?_
    intro r_11 g_12 H locs h hw
    refine eV_wT_wHp_6 kmX7_153 hC hw (m_X2_put l D cI cC cZ cJ (fun j => ad (6 + j)) N (r_4 + (1 : Int32)) r_11 (g_12 2) h) rfl rfl ⟨by decide, by decide⟩ rfl hl.1 (Nat.le_of_ble_eq_true rfl) dX7_makeClosure_45 ⟨Nat.zero_le _, Nat.zero_le _⟩ rfl ?_
    intro u_15 g_14 H locs eg_14 h hw
    have h := h g_14 eg_14
    refine lv_aload_n hx hb dX7_makeClosure_48 rfl (lv_at hl 1 rfl) ?_
    refine gt (v := .ref (ad 23)) kfX7_16 13 hC hw rfl rfl dX7_makeClosure_49 ?_
    refine lv_bipush (v := (6 : Int32)) hx hb dX7_makeClosure_52 (by decide) ?_
    refine lv_iload_n hx hb dX7_makeClosure_54 rfl (lv_at hl 0 rfl) ?_
    refine cSI ksX7_206 hC (m_X10_of l (6 : Int32) r_4 h) rfl rfl ⟨by decide, by decide⟩ rfl hl.1 (Nat.le_of_ble_eq_true rfl) dX7_makeClosure_55 ⟨Nat.zero_le _, Nat.zero_le _⟩ rfl ?_
    intro r_16 h
    refine eV_wT_wSt_23 kmX7_143 hC hw (m_X8_push l D cI cC cZ cJ (fun j => ad (23 + j)) 1550 r_16 (g_14 9) h) rfl rfl ⟨by decide, by decide⟩ rfl hl.1 (Nat.le_of_ble_eq_true rfl) dX7_makeClosure_58 ⟨Nat.zero_le _, Nat.zero_le _⟩ rfl ?_
    intro u_19 g_18 H locs eg_18 h hw
    have h := h g_18 eg_18
    refine lv_aload_n hx hb dX7_makeClosure_61 rfl (lv_at hl 1 rfl) ?_
    refine lv_iload_n hx hb dX7_makeClosure_62 rfl (lv_at hl 2 rfl) ?_
    refine pwT_13_8 kpX7_70 hC hw dX7_makeClosure_63 (fun H locs g_20 eg_20 hw => ?_)
    have h := h g_20 eg_20
    exact rtV (wf := (fun u : SG => (wT ad cI cC cZ cJ N u))) g_20 hC hr hlk hw h dX7_makeClosure_66
  · have h := h.2 c_3
    exact rtV (wf := (fun u : SG => (wT ad cI cC cZ cJ N u))) g_2 hC hr hlk hw h dX7_makeClosure_8
def V_X7_enter_140 (N : Nat) (post : SG → Prop) : Nat → Int32 → Int32 → Int32 → Int32 → SG → Prop
  | 0, _, _, _, _, _ => False
  | n + 1, x1, x3, x4, x5, G => ((x1 ≤ x5 → V_X8_cut 1550 (((G 9 0 0) - (1 : Int32)) - x1) (G 9) (fun u_4 => ∀ g_3 : SG, g_3 = uo G 9 u_4 → V_X10_of (7 : Int32) x4 (fun r_5 => V_X8_push 60 r_5 (g_3 10) (fun u_8 => ∀ g_7 : SG, g_7 = uo g_3 10 u_8 → V_X10_of (2 : Int32) (g_7 4 0 0) (fun r_9 => V_X8_push 60 r_9 (g_7 10) (fun u_12 => ∀ g_11 : SG, g_11 = uo g_7 10 u_12 → ∀ g_13 : SG, g_13 = uo g_11 4 (us (g_11 4) 5 (if (g_11 4 0 5) < ((g_11 10 0 0) / (2 : Int32)) then ((g_11 10 0 0) / (2 : Int32)) else (g_11 4 0 5))) → ∀ g_14 : SG, g_14 = uo g_13 4 (us (g_13 4) 0 (x3 + (1 : Int32))) → post g_14)))))) ∧ (¬ x1 ≤ x5 → V_X8_peek 1550 ((x1 - (1 : Int32)) - x5) (G 9) (fun r_15 u_17 => ∀ g_16 : SG, g_16 = uo G 9 u_17 → V_X2_put N ((x4 + (2 : Int32)) + x5) r_15 (g_16 2) (fun u_20 => ∀ g_19 : SG, g_19 = uo g_16 2 u_20 → ∀ x_21 : Int32, x_21 = x5 + (1 : Int32) → V_X7_enter_140 N post n x1 x3 x4 x_21 g_19))))
def V_X7_enter (N : Nat) (n : Nat) (x1 : Int32) (G : SG) (post : SG → Prop) : Prop := V_X8_peek 1550 x1 (G 9) (fun r_22 u_24 => ∀ g_23 : SG, g_23 = uo G 9 u_24 → V_X10_held r_22 (fun r_25 => V_X2_at N r_25 (g_23 2) (fun r_26 u_28 => ∀ g_27 : SG, g_27 = uo g_23 2 u_28 → V_X10_held r_26 (fun r_29 => V_X8_peek 1550 x1 (g_27 9) (fun r_30 u_32 => ∀ g_31 : SG, g_31 = uo g_27 9 u_32 → V_X10_tag r_30 (fun r_33 => ((¬ r_33 = (6 : Int32) → ∀ g_35 : SG, g_35 = uo g_31 4 (us (g_31 4) 2 (4 : Int32)) → post g_35) ∧ (r_33 = (6 : Int32) → V_X1_at N r_29 g_31 (fun r_36 g_37 => ((r_36 = x1 → (((g_37 10 0 0) < (60 : Int32) → V_X7_isRoomFor N ((2 : Int32) + x1) g_37 (fun r_40 g_41 => ((r_40 = 0 → post g_41) ∧ (¬ r_40 = 0 → V_X2_make N ((2 : Int32) + x1) (g_41 2) (fun r_43 u_45 => ∀ g_44 : SG, g_44 = uo g_41 2 u_45 → V_X2_at N (r_25 + (1 : Int32)) (g_44 2) (fun r_46 u_48 => ∀ g_47 : SG, g_47 = uo g_44 2 u_48 → V_X2_put N r_43 r_46 (g_47 2) (fun u_51 => ∀ g_50 : SG, g_50 = uo g_47 2 u_51 → V_X10_of (2 : Int32) x1 (fun r_52 => V_X2_put N (r_43 + (1 : Int32)) r_52 (g_50 2) (fun u_55 => ∀ g_54 : SG, g_54 = uo g_50 2 u_55 → ∀ x_56 : Int32, x_56 = (0 : Int32) → V_X7_enter_140 N post n x1 r_29 r_43 x_56 g_54))))))))) ∧ (¬ (g_37 10 0 0) < (60 : Int32) → ∀ g_57 : SG, g_57 = uo g_37 4 (us (g_37 4) 2 (2 : Int32)) → post g_57))) ∧ (¬ r_36 = x1 → ∀ g_58 : SG, g_58 = uo g_37 4 (us (g_37 4) 2 (4 : Int32)) → post g_58)))))))))))
abbrev RM_X7_enter : Room := { frames := 2, cells := 0, slots := 0, locals := 42 }
set_option maxHeartbeats 4000000 in
set_option maxRecDepth 100000 in
theorem m_X7_enter (l : Launch) (D : va_G) (cI cC cZ cJ : ClassId) (ad : Nat → Nat) (N : Nat) (ea : Nat → Nat → Nat) (n : Nat) (x1 : Int32) (G : SG) {post : SG → Prop} (h : V_X7_enter N n x1 G post) : MetVE ea l yX7_enter cX7_enter 6 RM_X7_enter D (ty4 cI cC cZ cJ) (wT ad cI cC cZ cJ N G) [.ref (ad 13), .int x1] (fun u : SG => (wT ad cI cC cZ cJ N u)) post := by
  refine mkVE (by decide) (Nat.le_of_ble_eq_true rfl) ?_
  intro p e s m args below meth c A ls hC hr hlk hw hE hl
  have hx := hC.1
  have hb := hC.2.1
  have hl : lv_has ls 6 [(0, .ref (ad 13)), (1, .int x1)] := hl
  have w_140 : ∀ (n : Nat) (x1 : Int32) (x3 : Int32) (x4 : Int32) (x5 : Int32) (G : SG) (H : Heap) (locs : List Loc) (ls : Array Slot), V_X7_enter_140 N post n x1 x3 x4 x5 G → Wd D (ty4 cI cC cZ cJ) A s (wT ad cI cC cZ cJ N G) H locs → lv_has ls 6 [(0, .ref (ad 13)), (1, .int x1), (3, .int x3), (4, .int x4), (5, .int x5)] → W p l e RM_X7_enter s m args below meth c H locs 0 0 (QV below D (ty4 cI cC cZ cJ) A args s (fun u : SG => (wT ad cI cC cZ cJ N u)) post) (F0 m 140 ls []) := by
    intro n
    induction n with
    | zero =>
      intro x1 x3 x4 x5 G H locs ls h
      exact False.elim h
    | succ n ih =>
      intro x1 x3 x4 x5 G H locs ls h hw hl
      rw [V_X7_enter_140] at h
      refine lv_iload hx hb dX7_enter_140 (lv_at hl 4 rfl) ?_
      refine lv_iload_n hx hb dX7_enter_142 rfl (lv_at hl 1 rfl) ?_
      refine lv_icmp_ge (tgt := 179) hx hb dX7_enter_143 (by decide) (fun c_1 => ?_) (fun c_1 => ?_)
      · have h := h.1 c_1
        refine lv_aload_n hx hb dX7_enter_179 rfl (lv_at hl 0 rfl) ?_
        refine gt (v := .ref (ad 23)) kfX7_16 13 hC hw rfl rfl dX7_enter_180 ?_
        refine lv_aload_n hx hb dX7_enter_183 rfl (lv_at hl 0 rfl) ?_
        refine gt (v := .ref (ad 23)) kfX7_16 13 hC hw rfl rfl dX7_enter_184 ?_
        refine gt (v := .int (G 9 0 0)) kfX7_127 23 hC hw rfl rfl dX7_enter_187 ?_
        refine lv_iconst (v := (1 : Int32)) hx hb dX7_enter_190 (by decide) ?_
        refine lv_isub hx hb dX7_enter_191 ?_
        refine lv_iload_n hx hb dX7_enter_192 rfl (lv_at hl 1 rfl) ?_
        refine lv_isub hx hb dX7_enter_193 ?_
        refine eV_wT_wSt_23 kmX7_109 hC hw (m_X8_cut l D cI cC cZ cJ (fun j => ad (23 + j)) 1550 (((G 9 0 0) - (1 : Int32)) - x1) (G 9) h) rfl rfl ⟨by decide, by decide⟩ rfl hl.1 (Nat.le_of_ble_eq_true rfl) dX7_enter_194 ⟨Nat.zero_le _, Nat.zero_le _⟩ rfl ?_
        intro u_4 g_3 H locs eg_3 h hw
        have h := h g_3 eg_3
        refine lv_aload_n hx hb dX7_enter_197 rfl (lv_at hl 0 rfl) ?_
        refine gt (v := .ref (ad 25)) kfX7_20 13 hC hw rfl rfl dX7_enter_198 ?_
        refine lv_bipush (v := (7 : Int32)) hx hb dX7_enter_201 (by decide) ?_
        refine lv_iload hx hb dX7_enter_203 (lv_at hl 3 rfl) ?_
        refine cSI ksX7_206 hC (m_X10_of l (7 : Int32) x4 h) rfl rfl ⟨by decide, by decide⟩ rfl hl.1 (Nat.le_of_ble_eq_true rfl) dX7_enter_205 ⟨Nat.zero_le _, Nat.zero_le _⟩ rfl ?_
        intro r_5 h
        refine eV_wT_wSt_25 kmX7_143 hC hw (m_X8_push l D cI cC cZ cJ (fun j => ad (25 + j)) 60 r_5 (g_3 10) h) rfl rfl ⟨by decide, by decide⟩ rfl hl.1 (Nat.le_of_ble_eq_true rfl) dX7_enter_208 ⟨Nat.zero_le _, Nat.zero_le _⟩ rfl ?_
        intro u_8 g_7 H locs eg_7 h hw
        have h := h g_7 eg_7
        refine lv_aload_n hx hb dX7_enter_211 rfl (lv_at hl 0 rfl) ?_
        refine gt (v := .ref (ad 25)) kfX7_20 13 hC hw rfl rfl dX7_enter_212 ?_
        refine lv_iconst (v := (2 : Int32)) hx hb dX7_enter_215 (by decide) ?_
        refine lv_aload_n hx hb dX7_enter_216 rfl (lv_at hl 0 rfl) ?_
        refine gt (v := .int (g_7 4 0 0)) kfX7_70 13 hC hw rfl rfl dX7_enter_217 ?_
        refine cSI ksX7_206 hC (m_X10_of l (2 : Int32) (g_7 4 0 0) h) rfl rfl ⟨by decide, by decide⟩ rfl hl.1 (Nat.le_of_ble_eq_true rfl) dX7_enter_220 ⟨Nat.zero_le _, Nat.zero_le _⟩ rfl ?_
        intro r_9 h
        refine eV_wT_wSt_25 kmX7_143 hC hw (m_X8_push l D cI cC cZ cJ (fun j => ad (25 + j)) 60 r_9 (g_7 10) h) rfl rfl ⟨by decide, by decide⟩ rfl hl.1 (Nat.le_of_ble_eq_true rfl) dX7_enter_223 ⟨Nat.zero_le _, Nat.zero_le _⟩ rfl ?_
        intro u_12 g_11 H locs eg_11 h hw
        have h := h g_11 eg_11
        refine lv_aload_n hx hb dX7_enter_226 rfl (lv_at hl 0 rfl) ?_
        refine lv_aload_n hx hb dX7_enter_227 rfl (lv_at hl 0 rfl) ?_
        refine gt (v := .int (g_11 4 0 5)) kfX7_94 13 hC hw rfl rfl dX7_enter_228 ?_
        refine lv_aload_n hx hb dX7_enter_231 rfl (lv_at hl 0 rfl) ?_
        refine gt (v := .ref (ad 25)) kfX7_20 13 hC hw rfl rfl dX7_enter_232 ?_
        refine gt (v := .int (g_11 10 0 0)) kfX7_127 25 hC hw rfl rfl dX7_enter_235 ?_
        refine lv_iconst (v := (2 : Int32)) hx hb dX7_enter_238 (by decide) ?_
        refine lv_idiv hx hb dX7_enter_239 (by decide) ?_
        refine va_mmax hx hb (hC.2.2.1.trans hl.1.symm) hC.2.2.2.1 (hC.2.2.2.2 _ (List.mem_cons_of_mem _ kMX7_213)) (hC.2.2.2.2 _ (List.mem_cons_of_mem _ kMs_max)) (hC.2.2.2.2 _ (List.mem_cons_of_mem _ kMi)) (hC.2.2.2.2 _ (List.mem_cons_of_mem _ kMc_max)) (Nat.le_of_ble_eq_true rfl) (Nat.le_of_ble_eq_true rfl) (Nat.zero_le _) (Nat.zero_le _) dX7_enter_240 ?_
        refine pwT_13_13 kpX7_94 hC hw dX7_enter_243 (fun H locs g_13 eg_13 hw => ?_)
        have h := h g_13 eg_13
        refine lv_aload_n hx hb dX7_enter_246 rfl (lv_at hl 0 rfl) ?_
        refine lv_iload_n hx hb dX7_enter_247 rfl (lv_at hl 2 rfl) ?_
        refine lv_iconst (v := (1 : Int32)) hx hb dX7_enter_248 (by decide) ?_
        refine lv_iadd hx hb dX7_enter_249 ?_
        refine pwT_13_8 kpX7_70 hC hw dX7_enter_250 (fun H locs g_14 eg_14 hw => ?_)
        have h := h g_14 eg_14
        exact rtV (wf := (fun u : SG => (wT ad cI cC cZ cJ N u))) g_14 hC hr hlk hw h dX7_enter_253
      · have h := h.2 c_1
        refine lv_aload_n hx hb dX7_enter_146 rfl (lv_at hl 0 rfl) ?_
        refine gt (v := .ref (ad 6)) kfX7_26 13 hC hw rfl rfl dX7_enter_147 ?_
        refine lv_iload hx hb dX7_enter_150 (lv_at hl 3 rfl) ?_
        refine lv_iconst (v := (2 : Int32)) hx hb dX7_enter_152 (by decide) ?_
        refine lv_iadd hx hb dX7_enter_153 ?_
        refine lv_iload hx hb dX7_enter_154 (lv_at hl 4 rfl) ?_
        refine lv_iadd hx hb dX7_enter_156 ?_
        refine lv_aload_n hx hb dX7_enter_157 rfl (lv_at hl 0 rfl) ?_
        refine gt (v := .ref (ad 23)) kfX7_16 13 hC hw rfl rfl dX7_enter_158 ?_
        refine lv_iload_n hx hb dX7_enter_161 rfl (lv_at hl 1 rfl) ?_
        refine lv_iconst (v := (1 : Int32)) hx hb dX7_enter_162 (by decide) ?_
        refine lv_isub hx hb dX7_enter_163 ?_
        refine lv_iload hx hb dX7_enter_164 (lv_at hl 4 rfl) ?_
        refine lv_isub hx hb dX7_enter_166 ?_
        refine eI_wT_wSt_23 kmX7_99 hC hw (m_X8_peek l D cI cC cZ cJ (fun j => ad (23 + j)) 1550 ((x1 - (1 : Int32)) - x5) (G 9) h) rfl rfl ⟨by decide, by decide⟩ rfl hl.1 (Nat.le_of_ble_eq_true rfl) dX7_enter_167 ⟨Nat.zero_le _, Nat.zero_le _⟩ rfl ?_
        intro r_15 u_17 g_16 H locs eg_16 h hw
        have h := h g_16 eg_16
        refine eV_wT_wHp_6 kmX7_153 hC hw (m_X2_put l D cI cC cZ cJ (fun j => ad (6 + j)) N ((x4 + (2 : Int32)) + x5) r_15 (g_16 2) h) rfl rfl ⟨by decide, by decide⟩ rfl hl.1 (Nat.le_of_ble_eq_true rfl) dX7_enter_170 ⟨Nat.zero_le _, Nat.zero_le _⟩ rfl ?_
        intro u_20 g_19 H locs eg_19 h hw
        have h := h g_19 eg_19
        obtain ⟨x_21, ex_21⟩ : ∃ y : Int32, y = x5 + (1 : Int32) := ⟨_, rfl⟩
        have h := h x_21 ex_21
        refine lv_iinc (v := x_21) (lv' := [(5, .int x_21), (0, .ref (ad 13)), (1, .int x1), (3, .int x3), (4, .int x4)]) hx hb dX7_enter_173 hl (k := 4) rfl (by rw [ex_21]; rfl) (by decide) rfl (fun ls hl => ?_)
        refine lv_goto (tgt := 140) hx hb dX7_enter_176 (by decide) ?_
        exact ih x1 x3 x4 x_21 g_19 _ _ _ h hw (lv_sub hl [1, 2, 3, 4, 0] rfl)
  unfold V_X7_enter at h
  refine lv_aload_n hx hb dX7_enter_0 rfl (lv_at hl 0 rfl) ?_
  refine gt (v := .ref (ad 23)) kfX7_16 13 hC hw rfl rfl dX7_enter_1 ?_
  refine lv_iload_n hx hb dX7_enter_4 rfl (lv_at hl 1 rfl) ?_
  refine eI_wT_wSt_23 kmX7_99 hC hw (m_X8_peek l D cI cC cZ cJ (fun j => ad (23 + j)) 1550 x1 (G 9) h) rfl rfl ⟨by decide, by decide⟩ rfl hl.1 (Nat.le_of_ble_eq_true rfl) dX7_enter_5 ⟨Nat.zero_le _, Nat.zero_le _⟩ rfl ?_
  intro r_22 u_24 g_23 H locs eg_23 h hw
  have h := h g_23 eg_23
  refine cSI ksX7_183 hC (m_X10_held l r_22 h) rfl rfl ⟨by decide, by decide⟩ rfl hl.1 (Nat.le_of_ble_eq_true rfl) dX7_enter_8 ⟨Nat.zero_le _, Nat.zero_le _⟩ rfl ?_
  intro r_25 h
  refine lv_istore_n (lv' := [(2, .int r_25), (0, .ref (ad 13)), (1, .int x1)]) hx hb dX7_enter_11 rfl hl (by decide) rfl (fun ls hl => ?_)
  refine lv_aload_n hx hb dX7_enter_12 rfl (lv_at hl 1 rfl) ?_
  refine gt (v := .ref (ad 6)) kfX7_26 13 hC hw rfl rfl dX7_enter_13 ?_
  refine lv_iload_n hx hb dX7_enter_16 rfl (lv_at hl 0 rfl) ?_
  refine eI_wT_wHp_6 kmX7_152 hC hw (m_X2_at l D cI cC cZ cJ (fun j => ad (6 + j)) N r_25 (g_23 2) h) rfl rfl ⟨by decide, by decide⟩ rfl hl.1 (Nat.le_of_ble_eq_true rfl) dX7_enter_17 ⟨Nat.zero_le _, Nat.zero_le _⟩ rfl ?_
  intro r_26 u_28 g_27 H locs eg_27 h hw
  have h := h g_27 eg_27
  refine cSI ksX7_183 hC (m_X10_held l r_26 h) rfl rfl ⟨by decide, by decide⟩ rfl hl.1 (Nat.le_of_ble_eq_true rfl) dX7_enter_20 ⟨Nat.zero_le _, Nat.zero_le _⟩ rfl ?_
  intro r_29 h
  refine lv_istore_n (lv' := [(3, .int r_29), (2, .int r_25), (0, .ref (ad 13)), (1, .int x1)]) hx hb dX7_enter_23 rfl hl (by decide) rfl (fun ls hl => ?_)
  refine lv_aload_n hx hb dX7_enter_24 rfl (lv_at hl 2 rfl) ?_
  refine gt (v := .ref (ad 23)) kfX7_16 13 hC hw rfl rfl dX7_enter_25 ?_
  refine lv_iload_n hx hb dX7_enter_28 rfl (lv_at hl 3 rfl) ?_
  refine eI_wT_wSt_23 kmX7_99 hC hw (m_X8_peek l D cI cC cZ cJ (fun j => ad (23 + j)) 1550 x1 (g_27 9) h) rfl rfl ⟨by decide, by decide⟩ rfl hl.1 (Nat.le_of_ble_eq_true rfl) dX7_enter_29 ⟨Nat.zero_le _, Nat.zero_le _⟩ rfl ?_
  intro r_30 u_32 g_31 H locs eg_31 h hw
  have h := h g_31 eg_31
  refine cSI ksX7_210 hC (m_X10_tag l r_30 h) rfl rfl ⟨by decide, by decide⟩ rfl hl.1 (Nat.le_of_ble_eq_true rfl) dX7_enter_32 ⟨Nat.zero_le _, Nat.zero_le _⟩ rfl ?_
  intro r_33 h
  refine lv_bipush (v := (6 : Int32)) hx hb dX7_enter_35 (by decide) ?_
  refine lv_icmp_ne (tgt := 52) hx hb dX7_enter_37 (by decide) (fun c_34 => ?_) (fun c_34 => ?_)
  · have h := h.1 c_34
    refine lv_aload_n hx hb dX7_enter_52 rfl (lv_at hl 2 rfl) ?_
    refine lv_iconst (v := (4 : Int32)) hx hb dX7_enter_53 (by decide) ?_
    refine pwT_13_10 kpX7_67 hC hw dX7_enter_54 (fun H locs g_35 eg_35 hw => ?_)
    have h := h g_35 eg_35
    refine lv_goto (tgt := 253) hx hb dX7_enter_57 (by decide) ?_
    exact rtV (wf := (fun u : SG => (wT ad cI cC cZ cJ N u))) g_35 hC hr hlk hw h dX7_enter_253
  · have h := h.2 c_34
    refine lv_aload_n hx hb dX7_enter_40 rfl (lv_at hl 2 rfl) ?_
    refine gt (v := .ref (ad 19)) kfX7_47 13 hC hw rfl rfl dX7_enter_41 ?_
    refine lv_iload_n hx hb dX7_enter_44 rfl (lv_at hl 0 rfl) ?_
    refine cVIwe kmX7_133 hC hw hE (m_X1_at l D cI cC cZ cJ ad N ea r_29 g_31 h) rfl rfl ⟨by decide, by decide⟩ (recvW hw rfl 19 rfl) rfl hl.1 (Nat.le_of_ble_eq_true rfl) dX7_enter_45 ⟨Nat.zero_le _, Nat.zero_le _⟩ rfl ?_
    intro r_36 g_37 H locs h hw
    refine lv_iload_n hx hb dX7_enter_48 rfl (lv_at hl 3 rfl) ?_
    refine lv_icmp_eq (tgt := 60) hx hb dX7_enter_49 (by decide) (fun c_38 => ?_) (fun c_38 => ?_)
    · have h := h.1 c_38
      refine lv_aload_n hx hb dX7_enter_60 rfl (lv_at hl 2 rfl) ?_
      refine gt (v := .ref (ad 25)) kfX7_20 13 hC hw rfl rfl dX7_enter_61 ?_
      refine gt (v := .int (g_37 10 0 0)) kfX7_127 25 hC hw rfl rfl dX7_enter_64 ?_
      refine lv_bipush (v := (60 : Int32)) hx hb dX7_enter_67 (by decide) ?_
      refine lv_icmp_lt (tgt := 80) hx hb dX7_enter_69 (by decide) (fun c_39 => ?_) (fun c_39 => ?_)
      · have h := h.1 c_39
        refine lv_aload_n hx hb dX7_enter_80 rfl (lv_at hl 2 rfl) ?_
        refine lv_iconst (v := (2 : Int32)) hx hb dX7_enter_81 (by decide) ?_
        refine lv_iload_n hx hb dX7_enter_82 rfl (lv_at hl 3 rfl) ?_
        refine lv_iadd hx hb dX7_enter_83 ?_
        refine cVIwe kmX7_200 hC hw hE (m_X7_isRoomFor l D cI cC cZ cJ ad N ea ((2 : Int32) + x1) g_37 h) rfl rfl ⟨by decide, by decide⟩ (recvW hw rfl 13 rfl) rfl hl.1 (Nat.le_of_ble_eq_true rfl) dX7_enter_84 ⟨Nat.zero_le _, Nat.zero_le _⟩ rfl ?_
        intro r_40 g_41 H locs h hw
        refine lv_if_eq (tgt := 253) hx hb dX7_enter_87 (by decide) (fun c_42 => ?_) (fun c_42 => ?_)
        · have h := h.1 c_42
          exact rtV (wf := (fun u : SG => (wT ad cI cC cZ cJ N u))) g_41 hC hr hlk hw h dX7_enter_253
        · have h := h.2 c_42
          refine lv_aload_n hx hb dX7_enter_90 rfl (lv_at hl 2 rfl) ?_
          refine gt (v := .ref (ad 6)) kfX7_26 13 hC hw rfl rfl dX7_enter_91 ?_
          refine lv_iconst (v := (2 : Int32)) hx hb dX7_enter_94 (by decide) ?_
          refine lv_iload_n hx hb dX7_enter_95 rfl (lv_at hl 3 rfl) ?_
          refine lv_iadd hx hb dX7_enter_96 ?_
          refine eI_wT_wHp_6 kmX7_203 hC hw (m_X2_make l D cI cC cZ cJ (fun j => ad (6 + j)) N ((2 : Int32) + x1) (g_41 2) h) rfl rfl ⟨by decide, by decide⟩ rfl hl.1 (Nat.le_of_ble_eq_true rfl) dX7_enter_97 ⟨Nat.zero_le _, Nat.zero_le _⟩ rfl ?_
          intro r_43 u_45 g_44 H locs eg_44 h hw
          have h := h g_44 eg_44
          refine lv_istore (lv' := [(4, .int r_43), (3, .int r_29), (2, .int r_25), (0, .ref (ad 13)), (1, .int x1)]) hx hb dX7_enter_100 hl (by decide) rfl (fun ls hl => ?_)
          refine lv_aload_n hx hb dX7_enter_102 rfl (lv_at hl 3 rfl) ?_
          refine gt (v := .ref (ad 6)) kfX7_26 13 hC hw rfl rfl dX7_enter_103 ?_
          refine lv_iload hx hb dX7_enter_106 (lv_at hl 0 rfl) ?_
          refine lv_aload_n hx hb dX7_enter_108 rfl (lv_at hl 3 rfl) ?_
          refine gt (v := .ref (ad 6)) kfX7_26 13 hC hw rfl rfl dX7_enter_109 ?_
          refine lv_iload_n hx hb dX7_enter_112 rfl (lv_at hl 2 rfl) ?_
          refine lv_iconst (v := (1 : Int32)) hx hb dX7_enter_113 (by decide) ?_
          refine lv_iadd hx hb dX7_enter_114 ?_
          refine eI_wT_wHp_6 kmX7_152 hC hw (m_X2_at l D cI cC cZ cJ (fun j => ad (6 + j)) N (r_25 + (1 : Int32)) (g_44 2) h) rfl rfl ⟨by decide, by decide⟩ rfl hl.1 (Nat.le_of_ble_eq_true rfl) dX7_enter_115 ⟨Nat.zero_le _, Nat.zero_le _⟩ rfl ?_
          intro r_46 u_48 g_47 H locs eg_47 h hw
          have h := h g_47 eg_47
          refine eV_wT_wHp_6 kmX7_153 hC hw (m_X2_put l D cI cC cZ cJ (fun j => ad (6 + j)) N r_43 r_46 (g_47 2) h) rfl rfl ⟨by decide, by decide⟩ rfl hl.1 (Nat.le_of_ble_eq_true rfl) dX7_enter_118 ⟨Nat.zero_le _, Nat.zero_le _⟩ rfl ?_
          intro u_51 g_50 H locs eg_50 h hw
          have h := h g_50 eg_50
          refine lv_aload_n hx hb dX7_enter_121 rfl (lv_at hl 3 rfl) ?_
          refine gt (v := .ref (ad 6)) kfX7_26 13 hC hw rfl rfl dX7_enter_122 ?_
          refine lv_iload hx hb dX7_enter_125 (lv_at hl 0 rfl) ?_
          refine lv_iconst (v := (1 : Int32)) hx hb dX7_enter_127 (by decide) ?_
          refine lv_iadd hx hb dX7_enter_128 ?_
          refine lv_iconst (v := (2 : Int32)) hx hb dX7_enter_129 (by decide) ?_
          refine lv_iload_n hx hb dX7_enter_130 rfl (lv_at hl 4 rfl) ?_
          refine cSI ksX7_206 hC (m_X10_of l (2 : Int32) x1 h) rfl rfl ⟨by decide, by decide⟩ rfl hl.1 (Nat.le_of_ble_eq_true rfl) dX7_enter_131 ⟨Nat.zero_le _, Nat.zero_le _⟩ rfl ?_
          intro r_52 h
          refine eV_wT_wHp_6 kmX7_153 hC hw (m_X2_put l D cI cC cZ cJ (fun j => ad (6 + j)) N (r_43 + (1 : Int32)) r_52 (g_50 2) h) rfl rfl ⟨by decide, by decide⟩ rfl hl.1 (Nat.le_of_ble_eq_true rfl) dX7_enter_134 ⟨Nat.zero_le _, Nat.zero_le _⟩ rfl ?_
          intro u_55 g_54 H locs eg_54 h hw
          have h := h g_54 eg_54
          refine lv_iconst (v := (0 : Int32)) hx hb dX7_enter_137 (by decide) ?_
          refine lv_topi (fun x_56 ex_56 => ?_)
          have h := h x_56 ex_56
          refine lv_istore (lv' := [(5, .int x_56), (4, .int r_43), (3, .int r_29), (2, .int r_25), (0, .ref (ad 13)), (1, .int x1)]) hx hb dX7_enter_138 hl (by decide) rfl (fun ls hl => ?_)
          exact w_140 n x1 r_29 r_43 x_56 g_54 _ _ _ h hw (lv_sub hl [4, 5, 2, 1, 0] rfl)
      · have h := h.2 c_39
        refine lv_aload_n hx hb dX7_enter_72 rfl (lv_at hl 2 rfl) ?_
        refine lv_iconst (v := (2 : Int32)) hx hb dX7_enter_73 (by decide) ?_
        refine pwT_13_10 kpX7_67 hC hw dX7_enter_74 (fun H locs g_57 eg_57 hw => ?_)
        have h := h g_57 eg_57
        refine lv_goto (tgt := 253) hx hb dX7_enter_77 (by decide) ?_
        exact rtV (wf := (fun u : SG => (wT ad cI cC cZ cJ N u))) g_57 hC hr hlk hw h dX7_enter_253
    · have h := h.2 c_38
      refine lv_aload_n hx hb dX7_enter_52 rfl (lv_at hl 2 rfl) ?_
      refine lv_iconst (v := (4 : Int32)) hx hb dX7_enter_53 (by decide) ?_
      refine pwT_13_10 kpX7_67 hC hw dX7_enter_54 (fun H locs g_58 eg_58 hw => ?_)
      have h := h g_58 eg_58
      refine lv_goto (tgt := 253) hx hb dX7_enter_57 (by decide) ?_
      exact rtV (wf := (fun u : SG => (wT ad cI cC cZ cJ N u))) g_58 hC hr hlk hw h dX7_enter_253
def V_X7_beginCatch (N : Nat) (x1 : Int32) (G : SG) (post : SG → Prop) : Prop := V_X8_pop 1550  (G 9) (fun r_1 u_3 => ∀ g_2 : SG, g_2 = uo G 9 u_3 → V_X8_push 1488 r_1 (g_2 11) (fun u_6 => ∀ g_5 : SG, g_5 = uo g_2 11 u_6 → V_X10_of (2 : Int32) (g_5 9 0 0) (fun r_7 => V_X8_push 1488 r_7 (g_5 11) (fun u_10 => ∀ g_9 : SG, g_9 = uo g_5 11 u_10 → V_X10_of (2 : Int32) (g_9 10 0 0) (fun r_11 => V_X8_push 1488 r_11 (g_9 11) (fun u_14 => ∀ g_13 : SG, g_13 = uo g_9 11 u_14 → V_X10_of (2 : Int32) x1 (fun r_15 => V_X8_push 1488 r_15 (g_13 11) (fun u_18 => ∀ g_17 : SG, g_17 = uo g_13 11 u_18 → post g_17))))))))
abbrev RM_X7_beginCatch : Room := { frames := 3, cells := 0, slots := 0, locals := 63 }
set_option maxHeartbeats 4000000 in
set_option maxRecDepth 100000 in
theorem m_X7_beginCatch (l : Launch) (D : va_G) (cI cC cZ cJ : ClassId) (ad : Nat → Nat) (N : Nat) (ea : Nat → Nat → Nat) (x1 : Int32) (G : SG) {post : SG → Prop} (h : V_X7_beginCatch N x1 G post) : MetVE ea l yX7_beginCatch cX7_beginCatch 3 RM_X7_beginCatch D (ty4 cI cC cZ cJ) (wT ad cI cC cZ cJ N G) [.ref (ad 13), .int x1] (fun u : SG => (wT ad cI cC cZ cJ N u)) post := by
  refine mkVE (by decide) (Nat.le_of_ble_eq_true rfl) ?_
  intro p e s m args below meth c A ls hC hr hlk hw hE hl
  have hx := hC.1
  have hb := hC.2.1
  have hl : lv_has ls 3 [(0, .ref (ad 13)), (1, .int x1)] := hl
  unfold V_X7_beginCatch at h
  refine lv_aload_n hx hb dX7_beginCatch_0 rfl (lv_at hl 0 rfl) ?_
  refine gt (v := .ref (ad 23)) kfX7_16 13 hC hw rfl rfl dX7_beginCatch_1 ?_
  refine eI_wT_wSt_23 kmX7_156 hC hw (m_X8_pop l D cI cC cZ cJ (fun j => ad (23 + j)) 1550  (G 9) h) rfl rfl ⟨by decide, by decide⟩ rfl hl.1 (Nat.le_of_ble_eq_true rfl) dX7_beginCatch_4 ⟨Nat.zero_le _, Nat.zero_le _⟩ rfl ?_
  intro r_1 u_3 g_2 H locs eg_2 h hw
  have h := h g_2 eg_2
  refine lv_istore_n (lv' := [(2, .int r_1), (0, .ref (ad 13)), (1, .int x1)]) hx hb dX7_beginCatch_7 rfl hl (by decide) rfl (fun ls hl => ?_)
  refine lv_aload_n hx hb dX7_beginCatch_8 rfl (lv_at hl 1 rfl) ?_
  refine gt (v := .ref (ad 27)) kfX7_23 13 hC hw rfl rfl dX7_beginCatch_9 ?_
  refine lv_iload_n hx hb dX7_beginCatch_12 rfl (lv_at hl 0 rfl) ?_
  refine eV_wT_wSt_27 kmX7_143 hC hw (m_X8_push l D cI cC cZ cJ (fun j => ad (27 + j)) 1488 r_1 (g_2 11) h) rfl rfl ⟨by decide, by decide⟩ rfl hl.1 (Nat.le_of_ble_eq_true rfl) dX7_beginCatch_13 ⟨Nat.zero_le _, Nat.zero_le _⟩ rfl ?_
  intro u_6 g_5 H locs eg_5 h hw
  have h := h g_5 eg_5
  refine lv_aload_n hx hb dX7_beginCatch_16 rfl (lv_at hl 1 rfl) ?_
  refine gt (v := .ref (ad 27)) kfX7_23 13 hC hw rfl rfl dX7_beginCatch_17 ?_
  refine lv_iconst (v := (2 : Int32)) hx hb dX7_beginCatch_20 (by decide) ?_
  refine lv_aload_n hx hb dX7_beginCatch_21 rfl (lv_at hl 1 rfl) ?_
  refine gt (v := .ref (ad 23)) kfX7_16 13 hC hw rfl rfl dX7_beginCatch_22 ?_
  refine gt (v := .int (g_5 9 0 0)) kfX7_127 23 hC hw rfl rfl dX7_beginCatch_25 ?_
  refine cSI ksX7_206 hC (m_X10_of l (2 : Int32) (g_5 9 0 0) h) rfl rfl ⟨by decide, by decide⟩ rfl hl.1 (Nat.le_of_ble_eq_true rfl) dX7_beginCatch_28 ⟨Nat.zero_le _, Nat.zero_le _⟩ rfl ?_
  intro r_7 h
  refine eV_wT_wSt_27 kmX7_143 hC hw (m_X8_push l D cI cC cZ cJ (fun j => ad (27 + j)) 1488 r_7 (g_5 11) h) rfl rfl ⟨by decide, by decide⟩ rfl hl.1 (Nat.le_of_ble_eq_true rfl) dX7_beginCatch_31 ⟨Nat.zero_le _, Nat.zero_le _⟩ rfl ?_
  intro u_10 g_9 H locs eg_9 h hw
  have h := h g_9 eg_9
  refine lv_aload_n hx hb dX7_beginCatch_34 rfl (lv_at hl 1 rfl) ?_
  refine gt (v := .ref (ad 27)) kfX7_23 13 hC hw rfl rfl dX7_beginCatch_35 ?_
  refine lv_iconst (v := (2 : Int32)) hx hb dX7_beginCatch_38 (by decide) ?_
  refine lv_aload_n hx hb dX7_beginCatch_39 rfl (lv_at hl 1 rfl) ?_
  refine gt (v := .ref (ad 25)) kfX7_20 13 hC hw rfl rfl dX7_beginCatch_40 ?_
  refine gt (v := .int (g_9 10 0 0)) kfX7_127 25 hC hw rfl rfl dX7_beginCatch_43 ?_
  refine cSI ksX7_206 hC (m_X10_of l (2 : Int32) (g_9 10 0 0) h) rfl rfl ⟨by decide, by decide⟩ rfl hl.1 (Nat.le_of_ble_eq_true rfl) dX7_beginCatch_46 ⟨Nat.zero_le _, Nat.zero_le _⟩ rfl ?_
  intro r_11 h
  refine eV_wT_wSt_27 kmX7_143 hC hw (m_X8_push l D cI cC cZ cJ (fun j => ad (27 + j)) 1488 r_11 (g_9 11) h) rfl rfl ⟨by decide, by decide⟩ rfl hl.1 (Nat.le_of_ble_eq_true rfl) dX7_beginCatch_49 ⟨Nat.zero_le _, Nat.zero_le _⟩ rfl ?_
  intro u_14 g_13 H locs eg_13 h hw
  have h := h g_13 eg_13
  refine lv_aload_n hx hb dX7_beginCatch_52 rfl (lv_at hl 1 rfl) ?_
  refine gt (v := .ref (ad 27)) kfX7_23 13 hC hw rfl rfl dX7_beginCatch_53 ?_
  refine lv_iconst (v := (2 : Int32)) hx hb dX7_beginCatch_56 (by decide) ?_
  refine lv_iload_n hx hb dX7_beginCatch_57 rfl (lv_at hl 2 rfl) ?_
  refine cSI ksX7_206 hC (m_X10_of l (2 : Int32) x1 h) rfl rfl ⟨by decide, by decide⟩ rfl hl.1 (Nat.le_of_ble_eq_true rfl) dX7_beginCatch_58 ⟨Nat.zero_le _, Nat.zero_le _⟩ rfl ?_
  intro r_15 h
  refine eV_wT_wSt_27 kmX7_143 hC hw (m_X8_push l D cI cC cZ cJ (fun j => ad (27 + j)) 1488 r_15 (g_13 11) h) rfl rfl ⟨by decide, by decide⟩ rfl hl.1 (Nat.le_of_ble_eq_true rfl) dX7_beginCatch_61 ⟨Nat.zero_le _, Nat.zero_le _⟩ rfl ?_
  intro u_18 g_17 H locs eg_17 h hw
  have h := h g_17 eg_17
  exact rtV (wf := (fun u : SG => (wT ad cI cC cZ cJ N u))) g_17 hC hr hlk hw h dX7_beginCatch_64
def V_X7_throwValue_50 (N : Nat) (post : SG → Prop) (n : Nat) (x1 : Int32) (x3 : Int32) (G : SG) : Prop := ((0 ≤ x3 → V_X8_at 1488 (x3 + (1 : Int32)) (G 11) (fun r_2 u_4 => ∀ g_3 : SG, g_3 = uo G 11 u_4 → V_X10_held r_2 (fun r_5 => V_X8_cut 1550 r_5 (g_3 9) (fun u_8 => ∀ g_7 : SG, g_7 = uo g_3 9 u_8 → V_X8_at 1488 (x3 + (2 : Int32)) (g_7 11) (fun r_9 u_11 => ∀ g_10 : SG, g_10 = uo g_7 11 u_11 → V_X10_held r_9 (fun r_12 => V_X8_cut 60 r_12 (g_10 10) (fun u_15 => ∀ g_14 : SG, g_14 = uo g_10 10 u_15 → V_X8_at 1488 (x3 + (3 : Int32)) (g_14 11) (fun r_16 u_18 => ∀ g_17 : SG, g_17 = uo g_14 11 u_18 → V_X10_held r_16 (fun r_19 => ∀ g_20 : SG, g_20 = uo g_17 4 (us (g_17 4) 0 r_19) → V_X8_cut 1488 x3 (g_20 11) (fun u_23 => ∀ g_22 : SG, g_22 = uo g_20 11 u_23 → V_X8_push 1550 x1 (g_22 9) (fun u_26 => ∀ g_25 : SG, g_25 = uo g_22 9 u_26 → post g_25))))))))))) ∧ (¬ 0 ≤ x3 → ∀ g_27 : SG, g_27 = uo G 4 (us (G 4) 2 (3 : Int32)) → post g_27))
def V_X7_throwValue_28 (N : Nat) (post : SG → Prop) : Nat → Int32 → Int32 → Int32 → SG → Prop
  | 0, _, _, _, _ => False
  | n + 1, x1, x2, x3, G => ((x3 < 0 → V_X7_throwValue_50 N post n x1 x3 G) ∧ (¬ x3 < 0 → V_X8_at 1488 x3 (G 11) (fun r_29 u_31 => ∀ g_30 : SG, g_30 = uo G 11 u_31 → ((r_29 = x2 → V_X7_throwValue_50 N post n x1 x3 g_30) ∧ (¬ r_29 = x2 → ∀ x_33 : Int32, x_33 = x3 + (-4 : Int32) → V_X7_throwValue_28 N post n x1 x2 x_33 g_30)))))
def V_X7_throwValue (N : Nat) (n : Nat) (G : SG) (post : SG → Prop) : Prop := V_X8_peek 1550 (0 : Int32) (G 9) (fun r_34 u_36 => ∀ g_35 : SG, g_35 = uo G 9 u_36 → V_X8_peek 1550 (1 : Int32) (g_35 9) (fun r_37 u_39 => ∀ g_38 : SG, g_38 = uo g_35 9 u_39 → ∀ x_40 : Int32, x_40 = ((g_38 11 0 0) - (4 : Int32)) → V_X7_throwValue_28 N post n r_34 r_37 x_40 g_38))
abbrev RM_X7_throwValue : Room := { frames := 2, cells := 0, slots := 0, locals := 42 }
set_option maxHeartbeats 4000000 in
set_option maxRecDepth 100000 in
theorem m_X7_throwValue (l : Launch) (D : va_G) (cI cC cZ cJ : ClassId) (ad : Nat → Nat) (N : Nat) (ea : Nat → Nat → Nat) (n : Nat) (G : SG) {post : SG → Prop} (h : V_X7_throwValue N n G post) : MetVE ea l yX7_throwValue cX7_throwValue 4 RM_X7_throwValue D (ty4 cI cC cZ cJ) (wT ad cI cC cZ cJ N G) [.ref (ad 13)] (fun u : SG => (wT ad cI cC cZ cJ N u)) post := by
  refine mkVE (by decide) (Nat.le_of_ble_eq_true rfl) ?_
  intro p e s m args below meth c A ls hC hr hlk hw hE hl
  have hx := hC.1
  have hb := hC.2.1
  have hl : lv_has ls 4 [(0, .ref (ad 13))] := hl
  have w_50 : ∀ (n : Nat) (x1 : Int32) (x3 : Int32) (G : SG) (H : Heap) (locs : List Loc) (ls : Array Slot), V_X7_throwValue_50 N post n x1 x3 G → Wd D (ty4 cI cC cZ cJ) A s (wT ad cI cC cZ cJ N G) H locs → lv_has ls 4 [(0, .ref (ad 13)), (1, .int x1), (3, .int x3)] → W p l e RM_X7_throwValue s m args below meth c H locs 0 0 (QV below D (ty4 cI cC cZ cJ) A args s (fun u : SG => (wT ad cI cC cZ cJ N u)) post) (F0 m 50 ls []) := by
    intro n x1 x3 G H locs ls h hw hl
    unfold V_X7_throwValue_50 at h
    refine lv_iload_n hx hb dX7_throwValue_50 rfl (lv_at hl 2 rfl) ?_
    refine lv_if_ge (tgt := 60) hx hb dX7_throwValue_51 (by decide) (fun c_1 => ?_) (fun c_1 => ?_)
    · have h := h.1 c_1
      refine lv_aload_n hx hb dX7_throwValue_60 rfl (lv_at hl 0 rfl) ?_
      refine gt (v := .ref (ad 23)) kfX7_16 13 hC hw rfl rfl dX7_throwValue_61 ?_
      refine lv_aload_n hx hb dX7_throwValue_64 rfl (lv_at hl 0 rfl) ?_
      refine gt (v := .ref (ad 27)) kfX7_23 13 hC hw rfl rfl dX7_throwValue_65 ?_
      refine lv_iload_n hx hb dX7_throwValue_68 rfl (lv_at hl 2 rfl) ?_
      refine lv_iconst (v := (1 : Int32)) hx hb dX7_throwValue_69 (by decide) ?_
      refine lv_iadd hx hb dX7_throwValue_70 ?_
      refine eI_wT_wSt_27 kmX7_218 hC hw (m_X8_at l D cI cC cZ cJ (fun j => ad (27 + j)) 1488 (x3 + (1 : Int32)) (G 11) h) rfl rfl ⟨by decide, by decide⟩ rfl hl.1 (Nat.le_of_ble_eq_true rfl) dX7_throwValue_71 ⟨Nat.zero_le _, Nat.zero_le _⟩ rfl ?_
      intro r_2 u_4 g_3 H locs eg_3 h hw
      have h := h g_3 eg_3
      refine cSI ksX7_183 hC (m_X10_held l r_2 h) rfl rfl ⟨by decide, by decide⟩ rfl hl.1 (Nat.le_of_ble_eq_true rfl) dX7_throwValue_74 ⟨Nat.zero_le _, Nat.zero_le _⟩ rfl ?_
      intro r_5 h
      refine eV_wT_wSt_23 kmX7_109 hC hw (m_X8_cut l D cI cC cZ cJ (fun j => ad (23 + j)) 1550 r_5 (g_3 9) h) rfl rfl ⟨by decide, by decide⟩ rfl hl.1 (Nat.le_of_ble_eq_true rfl) dX7_throwValue_77 ⟨Nat.zero_le _, Nat.zero_le _⟩ rfl ?_
      intro u_8 g_7 H locs eg_7 h hw
      have h := h g_7 eg_7
      refine lv_aload_n hx hb dX7_throwValue_80 rfl (lv_at hl 0 rfl) ?_
      refine gt (v := .ref (ad 25)) kfX7_20 13 hC hw rfl rfl dX7_throwValue_81 ?_
      refine lv_aload_n hx hb dX7_throwValue_84 rfl (lv_at hl 0 rfl) ?_
      refine gt (v := .ref (ad 27)) kfX7_23 13 hC hw rfl rfl dX7_throwValue_85 ?_
      refine lv_iload_n hx hb dX7_throwValue_88 rfl (lv_at hl 2 rfl) ?_
      refine lv_iconst (v := (2 : Int32)) hx hb dX7_throwValue_89 (by decide) ?_
      refine lv_iadd hx hb dX7_throwValue_90 ?_
      refine eI_wT_wSt_27 kmX7_218 hC hw (m_X8_at l D cI cC cZ cJ (fun j => ad (27 + j)) 1488 (x3 + (2 : Int32)) (g_7 11) h) rfl rfl ⟨by decide, by decide⟩ rfl hl.1 (Nat.le_of_ble_eq_true rfl) dX7_throwValue_91 ⟨Nat.zero_le _, Nat.zero_le _⟩ rfl ?_
      intro r_9 u_11 g_10 H locs eg_10 h hw
      have h := h g_10 eg_10
      refine cSI ksX7_183 hC (m_X10_held l r_9 h) rfl rfl ⟨by decide, by decide⟩ rfl hl.1 (Nat.le_of_ble_eq_true rfl) dX7_throwValue_94 ⟨Nat.zero_le _, Nat.zero_le _⟩ rfl ?_
      intro r_12 h
      refine eV_wT_wSt_25 kmX7_109 hC hw (m_X8_cut l D cI cC cZ cJ (fun j => ad (25 + j)) 60 r_12 (g_10 10) h) rfl rfl ⟨by decide, by decide⟩ rfl hl.1 (Nat.le_of_ble_eq_true rfl) dX7_throwValue_97 ⟨Nat.zero_le _, Nat.zero_le _⟩ rfl ?_
      intro u_15 g_14 H locs eg_14 h hw
      have h := h g_14 eg_14
      refine lv_aload_n hx hb dX7_throwValue_100 rfl (lv_at hl 0 rfl) ?_
      refine lv_aload_n hx hb dX7_throwValue_101 rfl (lv_at hl 0 rfl) ?_
      refine gt (v := .ref (ad 27)) kfX7_23 13 hC hw rfl rfl dX7_throwValue_102 ?_
      refine lv_iload_n hx hb dX7_throwValue_105 rfl (lv_at hl 2 rfl) ?_
      refine lv_iconst (v := (3 : Int32)) hx hb dX7_throwValue_106 (by decide) ?_
      refine lv_iadd hx hb dX7_throwValue_107 ?_
      refine eI_wT_wSt_27 kmX7_218 hC hw (m_X8_at l D cI cC cZ cJ (fun j => ad (27 + j)) 1488 (x3 + (3 : Int32)) (g_14 11) h) rfl rfl ⟨by decide, by decide⟩ rfl hl.1 (Nat.le_of_ble_eq_true rfl) dX7_throwValue_108 ⟨Nat.zero_le _, Nat.zero_le _⟩ rfl ?_
      intro r_16 u_18 g_17 H locs eg_17 h hw
      have h := h g_17 eg_17
      refine cSI ksX7_183 hC (m_X10_held l r_16 h) rfl rfl ⟨by decide, by decide⟩ rfl hl.1 (Nat.le_of_ble_eq_true rfl) dX7_throwValue_111 ⟨Nat.zero_le _, Nat.zero_le _⟩ rfl ?_
      intro r_19 h
      refine pwT_13_8 kpX7_70 hC hw dX7_throwValue_114 (fun H locs g_20 eg_20 hw => ?_)
      have h := h g_20 eg_20
      refine lv_aload_n hx hb dX7_throwValue_117 rfl (lv_at hl 0 rfl) ?_
      refine gt (v := .ref (ad 27)) kfX7_23 13 hC hw rfl rfl dX7_throwValue_118 ?_
      refine lv_iload_n hx hb dX7_throwValue_121 rfl (lv_at hl 2 rfl) ?_
      refine eV_wT_wSt_27 kmX7_109 hC hw (m_X8_cut l D cI cC cZ cJ (fun j => ad (27 + j)) 1488 x3 (g_20 11) h) rfl rfl ⟨by decide, by decide⟩ rfl hl.1 (Nat.le_of_ble_eq_true rfl) dX7_throwValue_122 ⟨Nat.zero_le _, Nat.zero_le _⟩ rfl ?_
      intro u_23 g_22 H locs eg_22 h hw
      have h := h g_22 eg_22
      refine lv_aload_n hx hb dX7_throwValue_125 rfl (lv_at hl 0 rfl) ?_
      refine gt (v := .ref (ad 23)) kfX7_16 13 hC hw rfl rfl dX7_throwValue_126 ?_
      refine lv_iload_n hx hb dX7_throwValue_129 rfl (lv_at hl 1 rfl) ?_
      refine eV_wT_wSt_23 kmX7_143 hC hw (m_X8_push l D cI cC cZ cJ (fun j => ad (23 + j)) 1550 x1 (g_22 9) h) rfl rfl ⟨by decide, by decide⟩ rfl hl.1 (Nat.le_of_ble_eq_true rfl) dX7_throwValue_130 ⟨Nat.zero_le _, Nat.zero_le _⟩ rfl ?_
      intro u_26 g_25 H locs eg_25 h hw
      have h := h g_25 eg_25
      exact rtV (wf := (fun u : SG => (wT ad cI cC cZ cJ N u))) g_25 hC hr hlk hw h dX7_throwValue_133
    · have h := h.2 c_1
      refine lv_aload_n hx hb dX7_throwValue_54 rfl (lv_at hl 0 rfl) ?_
      refine lv_iconst (v := (3 : Int32)) hx hb dX7_throwValue_55 (by decide) ?_
      refine pwT_13_10 kpX7_67 hC hw dX7_throwValue_56 (fun H locs g_27 eg_27 hw => ?_)
      have h := h g_27 eg_27
      exact rtV (wf := (fun u : SG => (wT ad cI cC cZ cJ N u))) g_27 hC hr hlk hw h dX7_throwValue_59
  have w_28 : ∀ (n : Nat) (x1 : Int32) (x2 : Int32) (x3 : Int32) (G : SG) (H : Heap) (locs : List Loc) (ls : Array Slot), V_X7_throwValue_28 N post n x1 x2 x3 G → Wd D (ty4 cI cC cZ cJ) A s (wT ad cI cC cZ cJ N G) H locs → lv_has ls 4 [(0, .ref (ad 13)), (1, .int x1), (2, .int x2), (3, .int x3)] → W p l e RM_X7_throwValue s m args below meth c H locs 0 0 (QV below D (ty4 cI cC cZ cJ) A args s (fun u : SG => (wT ad cI cC cZ cJ N u)) post) (F0 m 28 ls []) := by
    intro n
    induction n with
    | zero =>
      intro x1 x2 x3 G H locs ls h
      exact False.elim h
    | succ n ih =>
      intro x1 x2 x3 G H locs ls h hw hl
      rw [V_X7_throwValue_28] at h
      refine lv_iload_n hx hb dX7_throwValue_28 rfl (lv_at hl 3 rfl) ?_
      refine lv_if_lt (tgt := 50) hx hb dX7_throwValue_29 (by decide) (fun c_28 => ?_) (fun c_28 => ?_)
      · have h := h.1 c_28
        exact w_50 n x1 x3 G _ _ _ h hw (lv_sub hl [0, 1, 3] rfl)
      · have h := h.2 c_28
        refine lv_aload_n hx hb dX7_throwValue_32 rfl (lv_at hl 0 rfl) ?_
        refine gt (v := .ref (ad 27)) kfX7_23 13 hC hw rfl rfl dX7_throwValue_33 ?_
        refine lv_iload_n hx hb dX7_throwValue_36 rfl (lv_at hl 3 rfl) ?_
        refine eI_wT_wSt_27 kmX7_218 hC hw (m_X8_at l D cI cC cZ cJ (fun j => ad (27 + j)) 1488 x3 (G 11) h) rfl rfl ⟨by decide, by decide⟩ rfl hl.1 (Nat.le_of_ble_eq_true rfl) dX7_throwValue_37 ⟨Nat.zero_le _, Nat.zero_le _⟩ rfl ?_
        intro r_29 u_31 g_30 H locs eg_30 h hw
        have h := h g_30 eg_30
        refine lv_iload_n hx hb dX7_throwValue_40 rfl (lv_at hl 2 rfl) ?_
        refine lv_icmp_eq (tgt := 50) hx hb dX7_throwValue_41 (by decide) (fun c_32 => ?_) (fun c_32 => ?_)
        · have h := h.1 c_32
          exact w_50 n x1 x3 g_30 _ _ _ h hw (lv_sub hl [0, 1, 3] rfl)
        · have h := h.2 c_32
          obtain ⟨x_33, ex_33⟩ : ∃ y : Int32, y = x3 + (-4 : Int32) := ⟨_, rfl⟩
          have h := h x_33 ex_33
          refine lv_iinc (v := x_33) (lv' := [(3, .int x_33), (0, .ref (ad 13)), (1, .int x1), (2, .int x2)]) hx hb dX7_throwValue_44 hl (k := 3) rfl (by rw [ex_33]; rfl) (by decide) rfl (fun ls hl => ?_)
          refine lv_goto (tgt := 28) hx hb dX7_throwValue_47 (by decide) ?_
          exact ih x1 x2 x_33 g_30 _ _ _ h hw (lv_sub hl [1, 2, 3, 0] rfl)
  unfold V_X7_throwValue at h
  refine lv_aload_n hx hb dX7_throwValue_0 rfl (lv_at hl 0 rfl) ?_
  refine gt (v := .ref (ad 23)) kfX7_16 13 hC hw rfl rfl dX7_throwValue_1 ?_
  refine lv_iconst (v := (0 : Int32)) hx hb dX7_throwValue_4 (by decide) ?_
  refine eI_wT_wSt_23 kmX7_99 hC hw (m_X8_peek l D cI cC cZ cJ (fun j => ad (23 + j)) 1550 (0 : Int32) (G 9) h) rfl rfl ⟨by decide, by decide⟩ rfl hl.1 (Nat.le_of_ble_eq_true rfl) dX7_throwValue_5 ⟨Nat.zero_le _, Nat.zero_le _⟩ rfl ?_
  intro r_34 u_36 g_35 H locs eg_35 h hw
  have h := h g_35 eg_35
  refine lv_istore_n (lv' := [(1, .int r_34), (0, .ref (ad 13))]) hx hb dX7_throwValue_8 rfl hl (by decide) rfl (fun ls hl => ?_)
  refine lv_aload_n hx hb dX7_throwValue_9 rfl (lv_at hl 1 rfl) ?_
  refine gt (v := .ref (ad 23)) kfX7_16 13 hC hw rfl rfl dX7_throwValue_10 ?_
  refine lv_iconst (v := (1 : Int32)) hx hb dX7_throwValue_13 (by decide) ?_
  refine eI_wT_wSt_23 kmX7_99 hC hw (m_X8_peek l D cI cC cZ cJ (fun j => ad (23 + j)) 1550 (1 : Int32) (g_35 9) h) rfl rfl ⟨by decide, by decide⟩ rfl hl.1 (Nat.le_of_ble_eq_true rfl) dX7_throwValue_14 ⟨Nat.zero_le _, Nat.zero_le _⟩ rfl ?_
  intro r_37 u_39 g_38 H locs eg_38 h hw
  have h := h g_38 eg_38
  refine lv_istore_n (lv' := [(2, .int r_37), (1, .int r_34), (0, .ref (ad 13))]) hx hb dX7_throwValue_17 rfl hl (by decide) rfl (fun ls hl => ?_)
  refine lv_aload_n hx hb dX7_throwValue_18 rfl (lv_at hl 2 rfl) ?_
  refine gt (v := .ref (ad 27)) kfX7_23 13 hC hw rfl rfl dX7_throwValue_19 ?_
  refine gt (v := .int (g_38 11 0 0)) kfX7_127 27 hC hw rfl rfl dX7_throwValue_22 ?_
  refine lv_iconst (v := (4 : Int32)) hx hb dX7_throwValue_25 (by decide) ?_
  refine lv_isub hx hb dX7_throwValue_26 ?_
  refine lv_topi (fun x_40 ex_40 => ?_)
  have h := h x_40 ex_40
  refine lv_istore_n (lv' := [(3, .int x_40), (2, .int r_37), (1, .int r_34), (0, .ref (ad 13))]) hx hb dX7_throwValue_27 rfl hl (by decide) rfl (fun ls hl => ?_)
  exact w_28 n r_34 r_37 x_40 g_38 _ _ _ h hw (lv_sub hl [3, 2, 1, 0] rfl)
def V_X7_advanceControl (N : Nat) (n : Nat) (x1 : Int32) (G : SG) (post : SG → Prop) : Prop := ((x1 = (10 : Int32) → V_X7_operand N  G (fun r_2 g_3 => V_X7_makeClosure N r_2 g_3 (fun g_5 => post g_5))) ∧ (x1 = (11 : Int32) → V_X8_pop 60  (G 10) (fun r_6 u_8 => ∀ g_7 : SG, g_7 = uo G 10 u_8 → V_X10_held r_6 (fun r_9 => ∀ g_10 : SG, g_10 = uo g_7 4 (us (g_7 4) 0 r_9) → V_X8_pop 60  (g_10 10) (fun r_11 u_13 => ∀ g_12 : SG, g_12 = uo g_10 10 u_13 → post g_12)))) ∧ (x1 = (12 : Int32) → V_X7_operand N  G (fun r_14 g_15 => V_X7_beginCatch N r_14 g_15 (fun g_17 => post g_17))) ∧ (x1 = (13 : Int32) → V_X8_cut 1488 ((G 11 0 0) - (4 : Int32)) (G 11) (fun u_20 => ∀ g_19 : SG, g_19 = uo G 11 u_20 → post g_19)) ∧ (x1 = (14 : Int32) → V_X7_throwValue N n  G (fun g_22 => post g_22)) ∧ (x1 = (15 : Int32) → ∀ g_23 : SG, g_23 = uo G 4 (us (G 4) 1 (1 : Int32)) → post g_23) ∧ (x1 = (16 : Int32) → V_X7_operand N  G (fun r_24 g_25 => V_X7_enter N n r_24 g_25 (fun g_27 => post g_27))) ∧ (¬ x1 = (10 : Int32) → ¬ x1 = (11 : Int32) → ¬ x1 = (12 : Int32) → ¬ x1 = (13 : Int32) → ¬ x1 = (14 : Int32) → ¬ x1 = (15 : Int32) → ¬ x1 = (16 : Int32) → ∀ g_28 : SG, g_28 = uo G 4 (us (G 4) 1 (1 : Int32)) → post g_28))
abbrev RM_X7_advanceControl : Room := { frames := 4, cells := 0, slots := 0, locals := 85 }
set_option maxHeartbeats 4000000 in
set_option maxRecDepth 100000 in
theorem m_X7_advanceControl (l : Launch) (D : va_G) (cI cC cZ cJ : ClassId) (ad : Nat → Nat) (N : Nat) (ea : Nat → Nat → Nat) (n : Nat) (x1 : Int32) (G : SG) {post : SG → Prop} (h : V_X7_advanceControl N n x1 G post) : MetVE ea l yX7_advanceControl cX7_advanceControl 2 RM_X7_advanceControl D (ty4 cI cC cZ cJ) (wT ad cI cC cZ cJ N G) [.ref (ad 13), .int x1] (fun u : SG => (wT ad cI cC cZ cJ N u)) post := by
  refine mkVE (by decide) (Nat.le_of_ble_eq_true rfl) ?_
  intro p e s m args below meth c A ls hC hr hlk hw hE hl
  have hx := hC.1
  have hb := hC.2.1
  have hl : lv_has ls 2 [(0, .ref (ad 13)), (1, .int x1)] := hl
  unfold V_X7_advanceControl at h
  refine lv_iload_n hx hb dX7_advanceControl_0 rfl (lv_at hl 1 rfl) ?_
  by_cases c_1_10 : x1 = (10 : Int32)
  · refine lv_tableIn (off := 43) (tgt := 44) hx hb dX7_advanceControl_1 (by rw [c_1_10]; decide) (by rw [c_1_10]; decide) (by rw [c_1_10]; decide) (by decide) ?_
    have h := h.1 c_1_10
    refine lv_aload_n hx hb dX7_advanceControl_44 rfl (lv_at hl 0 rfl) ?_
    refine lv_aload_n hx hb dX7_advanceControl_45 rfl (lv_at hl 0 rfl) ?_
    refine cVIwe kmX7_136 hC hw hE (m_X7_operand l D cI cC cZ cJ ad N ea  G h) rfl rfl ⟨by decide, by decide⟩ (recvW hw rfl 13 rfl) rfl hl.1 (Nat.le_of_ble_eq_true rfl) dX7_advanceControl_46 ⟨Nat.zero_le _, Nat.zero_le _⟩ rfl ?_
    intro r_2 g_3 H locs h hw
    refine cVVwe kmX7_177 hC hw hE (m_X7_makeClosure l D cI cC cZ cJ ad N ea r_2 g_3 h) rfl rfl ⟨by decide, by decide⟩ (recvW hw rfl 13 rfl) rfl hl.1 (Nat.le_of_ble_eq_true rfl) dX7_advanceControl_49 ⟨Nat.zero_le _, Nat.zero_le _⟩ rfl ?_
    intro g_5 H locs h hw
    refine lv_goto (tgt := 133) hx hb dX7_advanceControl_52 (by decide) ?_
    exact rtV (wf := (fun u : SG => (wT ad cI cC cZ cJ N u))) g_5 hC hr hlk hw h dX7_advanceControl_133
  have h := h.2
  by_cases c_1_11 : x1 = (11 : Int32)
  · refine lv_tableIn (off := 65) (tgt := 66) hx hb dX7_advanceControl_1 (by rw [c_1_11]; decide) (by rw [c_1_11]; decide) (by rw [c_1_11]; decide) (by decide) ?_
    have h := h.1 c_1_11
    refine lv_aload_n hx hb dX7_advanceControl_66 rfl (lv_at hl 0 rfl) ?_
    refine lv_aload_n hx hb dX7_advanceControl_67 rfl (lv_at hl 0 rfl) ?_
    refine gt (v := .ref (ad 25)) kfX7_20 13 hC hw rfl rfl dX7_advanceControl_68 ?_
    refine eI_wT_wSt_25 kmX7_156 hC hw (m_X8_pop l D cI cC cZ cJ (fun j => ad (25 + j)) 60  (G 10) h) rfl rfl ⟨by decide, by decide⟩ rfl hl.1 (Nat.le_of_ble_eq_true rfl) dX7_advanceControl_71 ⟨Nat.zero_le _, Nat.zero_le _⟩ rfl ?_
    intro r_6 u_8 g_7 H locs eg_7 h hw
    have h := h g_7 eg_7
    refine cSI ksX7_183 hC (m_X10_held l r_6 h) rfl rfl ⟨by decide, by decide⟩ rfl hl.1 (Nat.le_of_ble_eq_true rfl) dX7_advanceControl_74 ⟨Nat.zero_le _, Nat.zero_le _⟩ rfl ?_
    intro r_9 h
    refine pwT_13_8 kpX7_70 hC hw dX7_advanceControl_77 (fun H locs g_10 eg_10 hw => ?_)
    have h := h g_10 eg_10
    refine lv_aload_n hx hb dX7_advanceControl_80 rfl (lv_at hl 0 rfl) ?_
    refine gt (v := .ref (ad 25)) kfX7_20 13 hC hw rfl rfl dX7_advanceControl_81 ?_
    refine eI_wT_wSt_25 kmX7_156 hC hw (m_X8_pop l D cI cC cZ cJ (fun j => ad (25 + j)) 60  (g_10 10) h) rfl rfl ⟨by decide, by decide⟩ rfl hl.1 (Nat.le_of_ble_eq_true rfl) dX7_advanceControl_84 ⟨Nat.zero_le _, Nat.zero_le _⟩ rfl ?_
    intro r_11 u_13 g_12 H locs eg_12 h hw
    have h := h g_12 eg_12
    refine lv_pop hx hb dX7_advanceControl_87 rfl ?_
    refine lv_goto (tgt := 133) hx hb dX7_advanceControl_88 (by decide) ?_
    exact rtV (wf := (fun u : SG => (wT ad cI cC cZ cJ N u))) g_12 hC hr hlk hw h dX7_advanceControl_133
  have h := h.2
  by_cases c_1_12 : x1 = (12 : Int32)
  · refine lv_tableIn (off := 90) (tgt := 91) hx hb dX7_advanceControl_1 (by rw [c_1_12]; decide) (by rw [c_1_12]; decide) (by rw [c_1_12]; decide) (by decide) ?_
    have h := h.1 c_1_12
    refine lv_aload_n hx hb dX7_advanceControl_91 rfl (lv_at hl 0 rfl) ?_
    refine lv_aload_n hx hb dX7_advanceControl_92 rfl (lv_at hl 0 rfl) ?_
    refine cVIwe kmX7_136 hC hw hE (m_X7_operand l D cI cC cZ cJ ad N ea  G h) rfl rfl ⟨by decide, by decide⟩ (recvW hw rfl 13 rfl) rfl hl.1 (Nat.le_of_ble_eq_true rfl) dX7_advanceControl_93 ⟨Nat.zero_le _, Nat.zero_le _⟩ rfl ?_
    intro r_14 g_15 H locs h hw
    refine cVVwe kmX7_188 hC hw hE (m_X7_beginCatch l D cI cC cZ cJ ad N ea r_14 g_15 h) rfl rfl ⟨by decide, by decide⟩ (recvW hw rfl 13 rfl) rfl hl.1 (Nat.le_of_ble_eq_true rfl) dX7_advanceControl_96 ⟨Nat.zero_le _, Nat.zero_le _⟩ rfl ?_
    intro g_17 H locs h hw
    refine lv_goto (tgt := 133) hx hb dX7_advanceControl_99 (by decide) ?_
    exact rtV (wf := (fun u : SG => (wT ad cI cC cZ cJ N u))) g_17 hC hr hlk hw h dX7_advanceControl_133
  have h := h.2
  by_cases c_1_13 : x1 = (13 : Int32)
  · refine lv_tableIn (off := 101) (tgt := 102) hx hb dX7_advanceControl_1 (by rw [c_1_13]; decide) (by rw [c_1_13]; decide) (by rw [c_1_13]; decide) (by decide) ?_
    have h := h.1 c_1_13
    refine lv_aload_n hx hb dX7_advanceControl_102 rfl (lv_at hl 0 rfl) ?_
    refine gt (v := .ref (ad 27)) kfX7_23 13 hC hw rfl rfl dX7_advanceControl_103 ?_
    refine lv_aload_n hx hb dX7_advanceControl_106 rfl (lv_at hl 0 rfl) ?_
    refine gt (v := .ref (ad 27)) kfX7_23 13 hC hw rfl rfl dX7_advanceControl_107 ?_
    refine gt (v := .int (G 11 0 0)) kfX7_127 27 hC hw rfl rfl dX7_advanceControl_110 ?_
    refine lv_iconst (v := (4 : Int32)) hx hb dX7_advanceControl_113 (by decide) ?_
    refine lv_isub hx hb dX7_advanceControl_114 ?_
    refine eV_wT_wSt_27 kmX7_109 hC hw (m_X8_cut l D cI cC cZ cJ (fun j => ad (27 + j)) 1488 ((G 11 0 0) - (4 : Int32)) (G 11) h) rfl rfl ⟨by decide, by decide⟩ rfl hl.1 (Nat.le_of_ble_eq_true rfl) dX7_advanceControl_115 ⟨Nat.zero_le _, Nat.zero_le _⟩ rfl ?_
    intro u_20 g_19 H locs eg_19 h hw
    have h := h g_19 eg_19
    refine lv_goto (tgt := 133) hx hb dX7_advanceControl_118 (by decide) ?_
    exact rtV (wf := (fun u : SG => (wT ad cI cC cZ cJ N u))) g_19 hC hr hlk hw h dX7_advanceControl_133
  have h := h.2
  by_cases c_1_14 : x1 = (14 : Int32)
  · refine lv_tableIn (off := 120) (tgt := 121) hx hb dX7_advanceControl_1 (by rw [c_1_14]; decide) (by rw [c_1_14]; decide) (by rw [c_1_14]; decide) (by decide) ?_
    have h := h.1 c_1_14
    refine lv_aload_n hx hb dX7_advanceControl_121 rfl (lv_at hl 0 rfl) ?_
    refine cVVwe kmX7_191 hC hw hE (m_X7_throwValue l D cI cC cZ cJ ad N ea n  G h) rfl rfl ⟨by decide, by decide⟩ (recvW hw rfl 13 rfl) rfl hl.1 (Nat.le_of_ble_eq_true rfl) dX7_advanceControl_122 ⟨Nat.zero_le _, Nat.zero_le _⟩ rfl ?_
    intro g_22 H locs h hw
    refine lv_goto (tgt := 133) hx hb dX7_advanceControl_125 (by decide) ?_
    exact rtV (wf := (fun u : SG => (wT ad cI cC cZ cJ N u))) g_22 hC hr hlk hw h dX7_advanceControl_133
  have h := h.2
  by_cases c_1_15 : x1 = (15 : Int32)
  · refine lv_tableIn (off := 127) (tgt := 128) hx hb dX7_advanceControl_1 (by rw [c_1_15]; decide) (by rw [c_1_15]; decide) (by rw [c_1_15]; decide) (by decide) ?_
    have h := h.1 c_1_15
    refine lv_aload_n hx hb dX7_advanceControl_128 rfl (lv_at hl 0 rfl) ?_
    refine lv_iconst (v := (1 : Int32)) hx hb dX7_advanceControl_129 (by decide) ?_
    refine pwT_13_9 kpX7_63 (by decide) hC hw dX7_advanceControl_130 (fun H locs g_23 eg_23 hw => ?_)
    have h := h g_23 eg_23
    exact rtV (wf := (fun u : SG => (wT ad cI cC cZ cJ N u))) g_23 hC hr hlk hw h dX7_advanceControl_133
  have h := h.2
  by_cases c_1_16 : x1 = (16 : Int32)
  · refine lv_tableIn (off := 54) (tgt := 55) hx hb dX7_advanceControl_1 (by rw [c_1_16]; decide) (by rw [c_1_16]; decide) (by rw [c_1_16]; decide) (by decide) ?_
    have h := h.1 c_1_16
    refine lv_aload_n hx hb dX7_advanceControl_55 rfl (lv_at hl 0 rfl) ?_
    refine lv_aload_n hx hb dX7_advanceControl_56 rfl (lv_at hl 0 rfl) ?_
    refine cVIwe kmX7_136 hC hw hE (m_X7_operand l D cI cC cZ cJ ad N ea  G h) rfl rfl ⟨by decide, by decide⟩ (recvW hw rfl 13 rfl) rfl hl.1 (Nat.le_of_ble_eq_true rfl) dX7_advanceControl_57 ⟨Nat.zero_le _, Nat.zero_le _⟩ rfl ?_
    intro r_24 g_25 H locs h hw
    refine cVVwe kmX7_180 hC hw hE (m_X7_enter l D cI cC cZ cJ ad N ea n r_24 g_25 h) rfl rfl ⟨by decide, by decide⟩ (recvW hw rfl 13 rfl) rfl hl.1 (Nat.le_of_ble_eq_true rfl) dX7_advanceControl_60 ⟨Nat.zero_le _, Nat.zero_le _⟩ rfl ?_
    intro g_27 H locs h hw
    refine lv_goto (tgt := 133) hx hb dX7_advanceControl_63 (by decide) ?_
    exact rtV (wf := (fun u : SG => (wT ad cI cC cZ cJ N u))) g_27 hC hr hlk hw h dX7_advanceControl_133
  have h := h.2
  have nc_1_10 := lv_neT c_1_10 (a := 10) (by decide)
  have nc_1_11 := lv_neT c_1_11 (a := 11) (by decide)
  have nc_1_12 := lv_neT c_1_12 (a := 12) (by decide)
  have nc_1_13 := lv_neT c_1_13 (a := 13) (by decide)
  have nc_1_14 := lv_neT c_1_14 (a := 14) (by decide)
  have nc_1_15 := lv_neT c_1_15 (a := 15) (by decide)
  have nc_1_16 := lv_neT c_1_16 (a := 16) (by decide)
  refine lv_tableOut (tgt := 128) hx hb dX7_advanceControl_1 (by omega) (by decide) ?_
  have h := h c_1_10 c_1_11 c_1_12 c_1_13 c_1_14 c_1_15 c_1_16
  refine lv_aload_n hx hb dX7_advanceControl_128 rfl (lv_at hl 0 rfl) ?_
  refine lv_iconst (v := (1 : Int32)) hx hb dX7_advanceControl_129 (by decide) ?_
  refine pwT_13_9 kpX7_63 (by decide) hC hw dX7_advanceControl_130 (fun H locs g_28 eg_28 hw => ?_)
  have h := h g_28 eg_28
  exact rtV (wf := (fun u : SG => (wT ad cI cC cZ cJ N u))) g_28 hC hr hlk hw h dX7_advanceControl_133
def V_X7_advance (N : Nat) (n : Nat) (G : SG) (post : SG → Prop) : Prop := V_X7_operand N  G (fun r_1 g_2 => ((r_1 = (1 : Int32) → V_X7_countStep N  g_2 (fun g_5 => post g_5)) ∧ (r_1 = (2 : Int32) → V_X7_operand N  g_2 (fun r_6 g_7 => V_X8_push 1550 r_6 (g_7 9) (fun u_10 => ∀ g_9 : SG, g_9 = uo g_7 9 u_10 → post g_9))) ∧ (r_1 = (3 : Int32) → V_X7_operand N  g_2 (fun r_11 g_12 => V_X7_pushOwn N r_11 g_12 (fun g_14 => post g_14))) ∧ (r_1 = (4 : Int32) → V_X7_operand N  g_2 (fun r_15 g_16 => V_X8_peek 1550 (0 : Int32) (g_16 9) (fun r_17 u_19 => ∀ g_18 : SG, g_18 = uo g_16 9 u_19 → V_X9_setWord r_15 r_17 (g_18 1) (fun u_22 => ∀ g_21 : SG, g_21 = uo g_18 1 u_22 → post g_21)))) ∧ (r_1 = (5 : Int32) → V_X7_operand N  g_2 (fun r_23 g_24 => V_X7_addressOf N n r_23 g_24 (fun r_25 g_26 => V_X2_at N r_25 (g_26 2) (fun r_27 u_29 => ∀ g_28 : SG, g_28 = uo g_26 2 u_29 → V_X8_push 1550 r_27 (g_28 9) (fun u_32 => ∀ g_31 : SG, g_31 = uo g_28 9 u_32 → post g_31))))) ∧ (r_1 = (6 : Int32) → V_X7_operand N  g_2 (fun r_33 g_34 => V_X7_addressOf N n r_33 g_34 (fun r_35 g_36 => V_X8_peek 1550 (0 : Int32) (g_36 9) (fun r_37 u_39 => ∀ g_38 : SG, g_38 = uo g_36 9 u_39 → V_X2_put N r_35 r_37 (g_38 2) (fun u_42 => ∀ g_41 : SG, g_41 = uo g_38 2 u_42 → post g_41))))) ∧ (r_1 = (7 : Int32) → V_X8_pop 1550  (g_2 9) (fun r_43 u_45 => ∀ g_44 : SG, g_44 = uo g_2 9 u_45 → post g_44)) ∧ (r_1 = (8 : Int32) → V_X7_operand N  g_2 (fun r_46 g_47 => ∀ g_48 : SG, g_48 = uo g_47 4 (us (g_47 4) 0 r_46) → post g_48)) ∧ (r_1 = (9 : Int32) → V_X7_operand N  g_2 (fun r_49 g_50 => V_X7_jumpIfNil N r_49 g_50 (fun g_52 => post g_52))) ∧ (r_1 = (10 : Int32) → V_X7_advanceControl N n r_1 g_2 (fun g_54 => post g_54)) ∧ (r_1 = (11 : Int32) → V_X7_advanceControl N n r_1 g_2 (fun g_56 => post g_56)) ∧ (r_1 = (12 : Int32) → V_X7_advanceControl N n r_1 g_2 (fun g_58 => post g_58)) ∧ (r_1 = (13 : Int32) → V_X7_advanceControl N n r_1 g_2 (fun g_60 => post g_60)) ∧ (r_1 = (14 : Int32) → V_X7_advanceControl N n r_1 g_2 (fun g_62 => post g_62)) ∧ (r_1 = (15 : Int32) → V_X7_operand N  g_2 (fun r_63 g_64 => V_X7_operand N  g_64 (fun r_65 g_66 => V_X3_at r_63 (fun r_67 => V_X7_answerOf N n r_67 r_65 g_66 (fun r_68 g_69 => V_X7_settle N r_68 r_65 g_69 (fun g_71 => post g_71)))))) ∧ (¬ r_1 = (1 : Int32) → ¬ r_1 = (2 : Int32) → ¬ r_1 = (3 : Int32) → ¬ r_1 = (4 : Int32) → ¬ r_1 = (5 : Int32) → ¬ r_1 = (6 : Int32) → ¬ r_1 = (7 : Int32) → ¬ r_1 = (8 : Int32) → ¬ r_1 = (9 : Int32) → ¬ r_1 = (10 : Int32) → ¬ r_1 = (11 : Int32) → ¬ r_1 = (12 : Int32) → ¬ r_1 = (13 : Int32) → ¬ r_1 = (14 : Int32) → ¬ r_1 = (15 : Int32) → V_X7_advanceControl N n r_1 g_2 (fun g_73 => post g_73))))
abbrev RM_X7_advance : Room := { frames := 92, cells := 0, slots := 0, locals := 2346 }
set_option maxHeartbeats 4000000 in
set_option maxRecDepth 100000 in
theorem m_X7_advance (l : Launch) (D : va_G) (cI cC cZ cJ : ClassId) (ad : Nat → Nat) (N : Nat) (ea : Nat → Nat → Nat) (n : Nat) (G : SG) {post : SG → Prop} (h : V_X7_advance N n G post) : MetVE ea l yX7_advance cX7_advance 4 RM_X7_advance D (ty4 cI cC cZ cJ) (wT ad cI cC cZ cJ N G) [.ref (ad 13)] (fun u : SG => (wT ad cI cC cZ cJ N u)) post := by
  refine mkVE (by decide) (Nat.le_of_ble_eq_true rfl) ?_
  intro p e s m args below meth c A ls hC hr hlk hw hE hl
  have hx := hC.1
  have hb := hC.2.1
  have hl : lv_has ls 4 [(0, .ref (ad 13))] := hl
  unfold V_X7_advance at h
  refine lv_aload_n hx hb dX7_advance_0 rfl (lv_at hl 0 rfl) ?_
  refine cVIwe kmX7_136 hC hw hE (m_X7_operand l D cI cC cZ cJ ad N ea  G h) rfl rfl ⟨by decide, by decide⟩ (recvW hw rfl 13 rfl) rfl hl.1 (Nat.le_of_ble_eq_true rfl) dX7_advance_1 ⟨Nat.zero_le _, Nat.zero_le _⟩ rfl ?_
  intro r_1 g_2 H locs h hw
  refine lv_istore_n (lv' := [(1, .int r_1), (0, .ref (ad 13))]) hx hb dX7_advance_4 rfl hl (by decide) rfl (fun ls hl => ?_)
  refine lv_iload_n hx hb dX7_advance_5 rfl (lv_at hl 0 rfl) ?_
  by_cases c_3_1 : r_1 = (1 : Int32)
  · refine lv_tableIn (off := 74) (tgt := 80) hx hb dX7_advance_6 (by rw [c_3_1]; decide) (by rw [c_3_1]; decide) (by rw [c_3_1]; decide) (by decide) ?_
    have h := h.1 c_3_1
    refine lv_aload_n hx hb dX7_advance_80 rfl (lv_at hl 1 rfl) ?_
    refine cVVwe kmX7_140 hC hw hE (m_X7_countStep l D cI cC cZ cJ ad N ea  g_2 h) rfl rfl ⟨by decide, by decide⟩ (recvW hw rfl 13 rfl) rfl hl.1 (Nat.le_of_ble_eq_true rfl) dX7_advance_81 ⟨Nat.zero_le _, Nat.zero_le _⟩ rfl ?_
    intro g_5 H locs h hw
    refine lv_goto (tgt := 250) hx hb dX7_advance_84 (by decide) ?_
    exact rtV (wf := (fun u : SG => (wT ad cI cC cZ cJ N u))) g_5 hC hr hlk hw h dX7_advance_250
  have h := h.2
  by_cases c_3_2 : r_1 = (2 : Int32)
  · refine lv_tableIn (off := 81) (tgt := 87) hx hb dX7_advance_6 (by rw [c_3_2]; decide) (by rw [c_3_2]; decide) (by rw [c_3_2]; decide) (by decide) ?_
    have h := h.1 c_3_2
    refine lv_aload_n hx hb dX7_advance_87 rfl (lv_at hl 1 rfl) ?_
    refine gt (v := .ref (ad 23)) kfX7_16 13 hC hw rfl rfl dX7_advance_88 ?_
    refine lv_aload_n hx hb dX7_advance_91 rfl (lv_at hl 1 rfl) ?_
    refine cVIwe kmX7_136 hC hw hE (m_X7_operand l D cI cC cZ cJ ad N ea  g_2 h) rfl rfl ⟨by decide, by decide⟩ (recvW hw rfl 13 rfl) rfl hl.1 (Nat.le_of_ble_eq_true rfl) dX7_advance_92 ⟨Nat.zero_le _, Nat.zero_le _⟩ rfl ?_
    intro r_6 g_7 H locs h hw
    refine eV_wT_wSt_23 kmX7_143 hC hw (m_X8_push l D cI cC cZ cJ (fun j => ad (23 + j)) 1550 r_6 (g_7 9) h) rfl rfl ⟨by decide, by decide⟩ rfl hl.1 (Nat.le_of_ble_eq_true rfl) dX7_advance_95 ⟨Nat.zero_le _, Nat.zero_le _⟩ rfl ?_
    intro u_10 g_9 H locs eg_9 h hw
    have h := h g_9 eg_9
    refine lv_goto (tgt := 250) hx hb dX7_advance_98 (by decide) ?_
    exact rtV (wf := (fun u : SG => (wT ad cI cC cZ cJ N u))) g_9 hC hr hlk hw h dX7_advance_250
  have h := h.2
  by_cases c_3_3 : r_1 = (3 : Int32)
  · refine lv_tableIn (off := 95) (tgt := 101) hx hb dX7_advance_6 (by rw [c_3_3]; decide) (by rw [c_3_3]; decide) (by rw [c_3_3]; decide) (by decide) ?_
    have h := h.1 c_3_3
    refine lv_aload_n hx hb dX7_advance_101 rfl (lv_at hl 1 rfl) ?_
    refine lv_aload_n hx hb dX7_advance_102 rfl (lv_at hl 1 rfl) ?_
    refine cVIwe kmX7_136 hC hw hE (m_X7_operand l D cI cC cZ cJ ad N ea  g_2 h) rfl rfl ⟨by decide, by decide⟩ (recvW hw rfl 13 rfl) rfl hl.1 (Nat.le_of_ble_eq_true rfl) dX7_advance_103 ⟨Nat.zero_le _, Nat.zero_le _⟩ rfl ?_
    intro r_11 g_12 H locs h hw
    refine cVVwe kmX7_146 hC hw hE (m_X7_pushOwn l D cI cC cZ cJ ad N ea r_11 g_12 h) rfl rfl ⟨by decide, by decide⟩ (recvW hw rfl 13 rfl) rfl hl.1 (Nat.le_of_ble_eq_true rfl) dX7_advance_106 ⟨Nat.zero_le _, Nat.zero_le _⟩ rfl ?_
    intro g_14 H locs h hw
    refine lv_goto (tgt := 250) hx hb dX7_advance_109 (by decide) ?_
    exact rtV (wf := (fun u : SG => (wT ad cI cC cZ cJ N u))) g_14 hC hr hlk hw h dX7_advance_250
  have h := h.2
  by_cases c_3_4 : r_1 = (4 : Int32)
  · refine lv_tableIn (off := 106) (tgt := 112) hx hb dX7_advance_6 (by rw [c_3_4]; decide) (by rw [c_3_4]; decide) (by rw [c_3_4]; decide) (by decide) ?_
    have h := h.1 c_3_4
    refine lv_aload_n hx hb dX7_advance_112 rfl (lv_at hl 1 rfl) ?_
    refine gt (v := .ref (ad 1)) kfX7_30 13 hC hw rfl rfl dX7_advance_113 ?_
    refine lv_aload_n hx hb dX7_advance_116 rfl (lv_at hl 1 rfl) ?_
    refine cVIwe kmX7_136 hC hw hE (m_X7_operand l D cI cC cZ cJ ad N ea  g_2 h) rfl rfl ⟨by decide, by decide⟩ (recvW hw rfl 13 rfl) rfl hl.1 (Nat.le_of_ble_eq_true rfl) dX7_advance_117 ⟨Nat.zero_le _, Nat.zero_le _⟩ rfl ?_
    intro r_15 g_16 H locs h hw
    refine lv_aload_n hx hb dX7_advance_120 rfl (lv_at hl 1 rfl) ?_
    refine gt (v := .ref (ad 23)) kfX7_16 13 hC hw rfl rfl dX7_advance_121 ?_
    refine lv_iconst (v := (0 : Int32)) hx hb dX7_advance_124 (by decide) ?_
    refine eI_wT_wSt_23 kmX7_99 hC hw (m_X8_peek l D cI cC cZ cJ (fun j => ad (23 + j)) 1550 (0 : Int32) (g_16 9) h) rfl rfl ⟨by decide, by decide⟩ rfl hl.1 (Nat.le_of_ble_eq_true rfl) dX7_advance_125 ⟨Nat.zero_le _, Nat.zero_le _⟩ rfl ?_
    intro r_17 u_19 g_18 H locs eg_18 h hw
    have h := h g_18 eg_18
    refine eV_wT_wSy_1 kmX7_102 hC hw (m_X9_setWord l D cI cC cZ cJ (fun j => ad (1 + j)) r_15 r_17 (g_18 1) h) rfl rfl ⟨by decide, by decide⟩ rfl hl.1 (Nat.le_of_ble_eq_true rfl) dX7_advance_128 ⟨Nat.zero_le _, Nat.zero_le _⟩ rfl ?_
    intro u_22 g_21 H locs eg_21 h hw
    have h := h g_21 eg_21
    refine lv_goto (tgt := 250) hx hb dX7_advance_131 (by decide) ?_
    exact rtV (wf := (fun u : SG => (wT ad cI cC cZ cJ N u))) g_21 hC hr hlk hw h dX7_advance_250
  have h := h.2
  by_cases c_3_5 : r_1 = (5 : Int32)
  · refine lv_tableIn (off := 128) (tgt := 134) hx hb dX7_advance_6 (by rw [c_3_5]; decide) (by rw [c_3_5]; decide) (by rw [c_3_5]; decide) (by decide) ?_
    have h := h.1 c_3_5
    refine lv_aload_n hx hb dX7_advance_134 rfl (lv_at hl 1 rfl) ?_
    refine gt (v := .ref (ad 23)) kfX7_16 13 hC hw rfl rfl dX7_advance_135 ?_
    refine lv_aload_n hx hb dX7_advance_138 rfl (lv_at hl 1 rfl) ?_
    refine gt (v := .ref (ad 6)) kfX7_26 13 hC hw rfl rfl dX7_advance_139 ?_
    refine lv_aload_n hx hb dX7_advance_142 rfl (lv_at hl 1 rfl) ?_
    refine lv_aload_n hx hb dX7_advance_143 rfl (lv_at hl 1 rfl) ?_
    refine cVIwe kmX7_136 hC hw hE (m_X7_operand l D cI cC cZ cJ ad N ea  g_2 h) rfl rfl ⟨by decide, by decide⟩ (recvW hw rfl 13 rfl) rfl hl.1 (Nat.le_of_ble_eq_true rfl) dX7_advance_144 ⟨Nat.zero_le _, Nat.zero_le _⟩ rfl ?_
    intro r_23 g_24 H locs h hw
    refine cVIwe kmX7_149 hC hw hE (m_X7_addressOf l D cI cC cZ cJ ad N ea n r_23 g_24 h) rfl rfl ⟨by decide, by decide⟩ (recvW hw rfl 13 rfl) rfl hl.1 (Nat.le_of_ble_eq_true rfl) dX7_advance_147 ⟨Nat.zero_le _, Nat.zero_le _⟩ rfl ?_
    intro r_25 g_26 H locs h hw
    refine eI_wT_wHp_6 kmX7_152 hC hw (m_X2_at l D cI cC cZ cJ (fun j => ad (6 + j)) N r_25 (g_26 2) h) rfl rfl ⟨by decide, by decide⟩ rfl hl.1 (Nat.le_of_ble_eq_true rfl) dX7_advance_150 ⟨Nat.zero_le _, Nat.zero_le _⟩ rfl ?_
    intro r_27 u_29 g_28 H locs eg_28 h hw
    have h := h g_28 eg_28
    refine eV_wT_wSt_23 kmX7_143 hC hw (m_X8_push l D cI cC cZ cJ (fun j => ad (23 + j)) 1550 r_27 (g_28 9) h) rfl rfl ⟨by decide, by decide⟩ rfl hl.1 (Nat.le_of_ble_eq_true rfl) dX7_advance_153 ⟨Nat.zero_le _, Nat.zero_le _⟩ rfl ?_
    intro u_32 g_31 H locs eg_31 h hw
    have h := h g_31 eg_31
    refine lv_goto (tgt := 250) hx hb dX7_advance_156 (by decide) ?_
    exact rtV (wf := (fun u : SG => (wT ad cI cC cZ cJ N u))) g_31 hC hr hlk hw h dX7_advance_250
  have h := h.2
  by_cases c_3_6 : r_1 = (6 : Int32)
  · refine lv_tableIn (off := 153) (tgt := 159) hx hb dX7_advance_6 (by rw [c_3_6]; decide) (by rw [c_3_6]; decide) (by rw [c_3_6]; decide) (by decide) ?_
    have h := h.1 c_3_6
    refine lv_aload_n hx hb dX7_advance_159 rfl (lv_at hl 1 rfl) ?_
    refine gt (v := .ref (ad 6)) kfX7_26 13 hC hw rfl rfl dX7_advance_160 ?_
    refine lv_aload_n hx hb dX7_advance_163 rfl (lv_at hl 1 rfl) ?_
    refine lv_aload_n hx hb dX7_advance_164 rfl (lv_at hl 1 rfl) ?_
    refine cVIwe kmX7_136 hC hw hE (m_X7_operand l D cI cC cZ cJ ad N ea  g_2 h) rfl rfl ⟨by decide, by decide⟩ (recvW hw rfl 13 rfl) rfl hl.1 (Nat.le_of_ble_eq_true rfl) dX7_advance_165 ⟨Nat.zero_le _, Nat.zero_le _⟩ rfl ?_
    intro r_33 g_34 H locs h hw
    refine cVIwe kmX7_149 hC hw hE (m_X7_addressOf l D cI cC cZ cJ ad N ea n r_33 g_34 h) rfl rfl ⟨by decide, by decide⟩ (recvW hw rfl 13 rfl) rfl hl.1 (Nat.le_of_ble_eq_true rfl) dX7_advance_168 ⟨Nat.zero_le _, Nat.zero_le _⟩ rfl ?_
    intro r_35 g_36 H locs h hw
    refine lv_aload_n hx hb dX7_advance_171 rfl (lv_at hl 1 rfl) ?_
    refine gt (v := .ref (ad 23)) kfX7_16 13 hC hw rfl rfl dX7_advance_172 ?_
    refine lv_iconst (v := (0 : Int32)) hx hb dX7_advance_175 (by decide) ?_
    refine eI_wT_wSt_23 kmX7_99 hC hw (m_X8_peek l D cI cC cZ cJ (fun j => ad (23 + j)) 1550 (0 : Int32) (g_36 9) h) rfl rfl ⟨by decide, by decide⟩ rfl hl.1 (Nat.le_of_ble_eq_true rfl) dX7_advance_176 ⟨Nat.zero_le _, Nat.zero_le _⟩ rfl ?_
    intro r_37 u_39 g_38 H locs eg_38 h hw
    have h := h g_38 eg_38
    refine eV_wT_wHp_6 kmX7_153 hC hw (m_X2_put l D cI cC cZ cJ (fun j => ad (6 + j)) N r_35 r_37 (g_38 2) h) rfl rfl ⟨by decide, by decide⟩ rfl hl.1 (Nat.le_of_ble_eq_true rfl) dX7_advance_179 ⟨Nat.zero_le _, Nat.zero_le _⟩ rfl ?_
    intro u_42 g_41 H locs eg_41 h hw
    have h := h g_41 eg_41
    refine lv_goto (tgt := 250) hx hb dX7_advance_182 (by decide) ?_
    exact rtV (wf := (fun u : SG => (wT ad cI cC cZ cJ N u))) g_41 hC hr hlk hw h dX7_advance_250
  have h := h.2
  by_cases c_3_7 : r_1 = (7 : Int32)
  · refine lv_tableIn (off := 179) (tgt := 185) hx hb dX7_advance_6 (by rw [c_3_7]; decide) (by rw [c_3_7]; decide) (by rw [c_3_7]; decide) (by decide) ?_
    have h := h.1 c_3_7
    refine lv_aload_n hx hb dX7_advance_185 rfl (lv_at hl 1 rfl) ?_
    refine gt (v := .ref (ad 23)) kfX7_16 13 hC hw rfl rfl dX7_advance_186 ?_
    refine eI_wT_wSt_23 kmX7_156 hC hw (m_X8_pop l D cI cC cZ cJ (fun j => ad (23 + j)) 1550  (g_2 9) h) rfl rfl ⟨by decide, by decide⟩ rfl hl.1 (Nat.le_of_ble_eq_true rfl) dX7_advance_189 ⟨Nat.zero_le _, Nat.zero_le _⟩ rfl ?_
    intro r_43 u_45 g_44 H locs eg_44 h hw
    have h := h g_44 eg_44
    refine lv_pop hx hb dX7_advance_192 rfl ?_
    refine lv_goto (tgt := 250) hx hb dX7_advance_193 (by decide) ?_
    exact rtV (wf := (fun u : SG => (wT ad cI cC cZ cJ N u))) g_44 hC hr hlk hw h dX7_advance_250
  have h := h.2
  by_cases c_3_8 : r_1 = (8 : Int32)
  · refine lv_tableIn (off := 190) (tgt := 196) hx hb dX7_advance_6 (by rw [c_3_8]; decide) (by rw [c_3_8]; decide) (by rw [c_3_8]; decide) (by decide) ?_
    have h := h.1 c_3_8
    refine lv_aload_n hx hb dX7_advance_196 rfl (lv_at hl 1 rfl) ?_
    refine lv_aload_n hx hb dX7_advance_197 rfl (lv_at hl 1 rfl) ?_
    refine cVIwe kmX7_136 hC hw hE (m_X7_operand l D cI cC cZ cJ ad N ea  g_2 h) rfl rfl ⟨by decide, by decide⟩ (recvW hw rfl 13 rfl) rfl hl.1 (Nat.le_of_ble_eq_true rfl) dX7_advance_198 ⟨Nat.zero_le _, Nat.zero_le _⟩ rfl ?_
    intro r_46 g_47 H locs h hw
    refine pwT_13_8 kpX7_70 hC hw dX7_advance_201 (fun H locs g_48 eg_48 hw => ?_)
    have h := h g_48 eg_48
    refine lv_goto (tgt := 250) hx hb dX7_advance_204 (by decide) ?_
    exact rtV (wf := (fun u : SG => (wT ad cI cC cZ cJ N u))) g_48 hC hr hlk hw h dX7_advance_250
  have h := h.2
  by_cases c_3_9 : r_1 = (9 : Int32)
  · refine lv_tableIn (off := 201) (tgt := 207) hx hb dX7_advance_6 (by rw [c_3_9]; decide) (by rw [c_3_9]; decide) (by rw [c_3_9]; decide) (by decide) ?_
    have h := h.1 c_3_9
    refine lv_aload_n hx hb dX7_advance_207 rfl (lv_at hl 1 rfl) ?_
    refine lv_aload_n hx hb dX7_advance_208 rfl (lv_at hl 1 rfl) ?_
    refine cVIwe kmX7_136 hC hw hE (m_X7_operand l D cI cC cZ cJ ad N ea  g_2 h) rfl rfl ⟨by decide, by decide⟩ (recvW hw rfl 13 rfl) rfl hl.1 (Nat.le_of_ble_eq_true rfl) dX7_advance_209 ⟨Nat.zero_le _, Nat.zero_le _⟩ rfl ?_
    intro r_49 g_50 H locs h hw
    refine cVVwe kmX7_159 hC hw hE (m_X7_jumpIfNil l D cI cC cZ cJ ad N ea r_49 g_50 h) rfl rfl ⟨by decide, by decide⟩ (recvW hw rfl 13 rfl) rfl hl.1 (Nat.le_of_ble_eq_true rfl) dX7_advance_212 ⟨Nat.zero_le _, Nat.zero_le _⟩ rfl ?_
    intro g_52 H locs h hw
    refine lv_goto (tgt := 250) hx hb dX7_advance_215 (by decide) ?_
    exact rtV (wf := (fun u : SG => (wT ad cI cC cZ cJ N u))) g_52 hC hr hlk hw h dX7_advance_250
  have h := h.2
  by_cases c_3_10 : r_1 = (10 : Int32)
  · refine lv_tableIn (off := 239) (tgt := 245) hx hb dX7_advance_6 (by rw [c_3_10]; decide) (by rw [c_3_10]; decide) (by rw [c_3_10]; decide) (by decide) ?_
    have h := h.1 c_3_10
    refine lv_aload_n hx hb dX7_advance_245 rfl (lv_at hl 1 rfl) ?_
    refine lv_iload_n hx hb dX7_advance_246 rfl (lv_at hl 0 rfl) ?_
    refine cVVwe kmX7_174 hC hw hE (m_X7_advanceControl l D cI cC cZ cJ ad N ea n r_1 g_2 h) rfl rfl ⟨by decide, by decide⟩ (recvW hw rfl 13 rfl) rfl hl.1 (Nat.le_of_ble_eq_true rfl) dX7_advance_247 ⟨Nat.zero_le _, Nat.zero_le _⟩ rfl ?_
    intro g_54 H locs h hw
    exact rtV (wf := (fun u : SG => (wT ad cI cC cZ cJ N u))) g_54 hC hr hlk hw h dX7_advance_250
  have h := h.2
  by_cases c_3_11 : r_1 = (11 : Int32)
  · refine lv_tableIn (off := 239) (tgt := 245) hx hb dX7_advance_6 (by rw [c_3_11]; decide) (by rw [c_3_11]; decide) (by rw [c_3_11]; decide) (by decide) ?_
    have h := h.1 c_3_11
    refine lv_aload_n hx hb dX7_advance_245 rfl (lv_at hl 1 rfl) ?_
    refine lv_iload_n hx hb dX7_advance_246 rfl (lv_at hl 0 rfl) ?_
    refine cVVwe kmX7_174 hC hw hE (m_X7_advanceControl l D cI cC cZ cJ ad N ea n r_1 g_2 h) rfl rfl ⟨by decide, by decide⟩ (recvW hw rfl 13 rfl) rfl hl.1 (Nat.le_of_ble_eq_true rfl) dX7_advance_247 ⟨Nat.zero_le _, Nat.zero_le _⟩ rfl ?_
    intro g_56 H locs h hw
    exact rtV (wf := (fun u : SG => (wT ad cI cC cZ cJ N u))) g_56 hC hr hlk hw h dX7_advance_250
  have h := h.2
  by_cases c_3_12 : r_1 = (12 : Int32)
  · refine lv_tableIn (off := 239) (tgt := 245) hx hb dX7_advance_6 (by rw [c_3_12]; decide) (by rw [c_3_12]; decide) (by rw [c_3_12]; decide) (by decide) ?_
    have h := h.1 c_3_12
    refine lv_aload_n hx hb dX7_advance_245 rfl (lv_at hl 1 rfl) ?_
    refine lv_iload_n hx hb dX7_advance_246 rfl (lv_at hl 0 rfl) ?_
    refine cVVwe kmX7_174 hC hw hE (m_X7_advanceControl l D cI cC cZ cJ ad N ea n r_1 g_2 h) rfl rfl ⟨by decide, by decide⟩ (recvW hw rfl 13 rfl) rfl hl.1 (Nat.le_of_ble_eq_true rfl) dX7_advance_247 ⟨Nat.zero_le _, Nat.zero_le _⟩ rfl ?_
    intro g_58 H locs h hw
    exact rtV (wf := (fun u : SG => (wT ad cI cC cZ cJ N u))) g_58 hC hr hlk hw h dX7_advance_250
  have h := h.2
  by_cases c_3_13 : r_1 = (13 : Int32)
  · refine lv_tableIn (off := 239) (tgt := 245) hx hb dX7_advance_6 (by rw [c_3_13]; decide) (by rw [c_3_13]; decide) (by rw [c_3_13]; decide) (by decide) ?_
    have h := h.1 c_3_13
    refine lv_aload_n hx hb dX7_advance_245 rfl (lv_at hl 1 rfl) ?_
    refine lv_iload_n hx hb dX7_advance_246 rfl (lv_at hl 0 rfl) ?_
    refine cVVwe kmX7_174 hC hw hE (m_X7_advanceControl l D cI cC cZ cJ ad N ea n r_1 g_2 h) rfl rfl ⟨by decide, by decide⟩ (recvW hw rfl 13 rfl) rfl hl.1 (Nat.le_of_ble_eq_true rfl) dX7_advance_247 ⟨Nat.zero_le _, Nat.zero_le _⟩ rfl ?_
    intro g_60 H locs h hw
    exact rtV (wf := (fun u : SG => (wT ad cI cC cZ cJ N u))) g_60 hC hr hlk hw h dX7_advance_250
  have h := h.2
  by_cases c_3_14 : r_1 = (14 : Int32)
  · refine lv_tableIn (off := 239) (tgt := 245) hx hb dX7_advance_6 (by rw [c_3_14]; decide) (by rw [c_3_14]; decide) (by rw [c_3_14]; decide) (by decide) ?_
    have h := h.1 c_3_14
    refine lv_aload_n hx hb dX7_advance_245 rfl (lv_at hl 1 rfl) ?_
    refine lv_iload_n hx hb dX7_advance_246 rfl (lv_at hl 0 rfl) ?_
    refine cVVwe kmX7_174 hC hw hE (m_X7_advanceControl l D cI cC cZ cJ ad N ea n r_1 g_2 h) rfl rfl ⟨by decide, by decide⟩ (recvW hw rfl 13 rfl) rfl hl.1 (Nat.le_of_ble_eq_true rfl) dX7_advance_247 ⟨Nat.zero_le _, Nat.zero_le _⟩ rfl ?_
    intro g_62 H locs h hw
    exact rtV (wf := (fun u : SG => (wT ad cI cC cZ cJ N u))) g_62 hC hr hlk hw h dX7_advance_250
  have h := h.2
  by_cases c_3_15 : r_1 = (15 : Int32)
  · refine lv_tableIn (off := 212) (tgt := 218) hx hb dX7_advance_6 (by rw [c_3_15]; decide) (by rw [c_3_15]; decide) (by rw [c_3_15]; decide) (by decide) ?_
    have h := h.1 c_3_15
    refine lv_aload_n hx hb dX7_advance_218 rfl (lv_at hl 1 rfl) ?_
    refine cVIwe kmX7_136 hC hw hE (m_X7_operand l D cI cC cZ cJ ad N ea  g_2 h) rfl rfl ⟨by decide, by decide⟩ (recvW hw rfl 13 rfl) rfl hl.1 (Nat.le_of_ble_eq_true rfl) dX7_advance_219 ⟨Nat.zero_le _, Nat.zero_le _⟩ rfl ?_
    intro r_63 g_64 H locs h hw
    refine lv_istore_n (lv' := [(2, .int r_63), (1, .int r_1), (0, .ref (ad 13))]) hx hb dX7_advance_222 rfl hl (by decide) rfl (fun ls hl => ?_)
    refine lv_aload_n hx hb dX7_advance_223 rfl (lv_at hl 2 rfl) ?_
    refine cVIwe kmX7_136 hC hw hE (m_X7_operand l D cI cC cZ cJ ad N ea  g_64 h) rfl rfl ⟨by decide, by decide⟩ (recvW hw rfl 13 rfl) rfl hl.1 (Nat.le_of_ble_eq_true rfl) dX7_advance_224 ⟨Nat.zero_le _, Nat.zero_le _⟩ rfl ?_
    intro r_65 g_66 H locs h hw
    refine lv_istore_n (lv' := [(3, .int r_65), (2, .int r_63), (1, .int r_1), (0, .ref (ad 13))]) hx hb dX7_advance_227 rfl hl (by decide) rfl (fun ls hl => ?_)
    refine lv_aload_n hx hb dX7_advance_228 rfl (lv_at hl 3 rfl) ?_
    refine lv_aload_n hx hb dX7_advance_229 rfl (lv_at hl 3 rfl) ?_
    refine lv_iload_n hx hb dX7_advance_230 rfl (lv_at hl 1 rfl) ?_
    refine cSR ksX7_162 hC hw hE (m_X3_at l D cI cC cZ cJ ea r_63 h) rfl rfl ⟨by decide, by decide⟩ rfl hl.1 (Nat.le_of_ble_eq_true rfl) dX7_advance_231 ⟨Nat.zero_le _, Nat.zero_le _⟩ rfl ?_
    intro r_67 H locs h hw
    refine lv_iload_n hx hb dX7_advance_234 rfl (lv_at hl 0 rfl) ?_
    refine cVIwe kmX7_167 hC hw hE (m_X7_answerOf l D cI cC cZ cJ ad N ea n r_67 r_65 g_66 h) rfl rfl ⟨by decide, by decide⟩ (recvW hw rfl 13 rfl) rfl hl.1 (Nat.le_of_ble_eq_true rfl) dX7_advance_235 ⟨Nat.zero_le _, Nat.zero_le _⟩ rfl ?_
    intro r_68 g_69 H locs h hw
    refine lv_iload_n hx hb dX7_advance_238 rfl (lv_at hl 0 rfl) ?_
    refine cVVwe kmX7_171 hC hw hE (m_X7_settle l D cI cC cZ cJ ad N ea r_68 r_65 g_69 h) rfl rfl ⟨by decide, by decide⟩ (recvW hw rfl 13 rfl) rfl hl.1 (Nat.le_of_ble_eq_true rfl) dX7_advance_239 ⟨Nat.zero_le _, Nat.zero_le _⟩ rfl ?_
    intro g_71 H locs h hw
    refine lv_goto (tgt := 250) hx hb dX7_advance_242 (by decide) ?_
    exact rtV (wf := (fun u : SG => (wT ad cI cC cZ cJ N u))) g_71 hC hr hlk hw h dX7_advance_250
  have h := h.2
  have nc_3_1 := lv_neT c_3_1 (a := 1) (by decide)
  have nc_3_2 := lv_neT c_3_2 (a := 2) (by decide)
  have nc_3_3 := lv_neT c_3_3 (a := 3) (by decide)
  have nc_3_4 := lv_neT c_3_4 (a := 4) (by decide)
  have nc_3_5 := lv_neT c_3_5 (a := 5) (by decide)
  have nc_3_6 := lv_neT c_3_6 (a := 6) (by decide)
  have nc_3_7 := lv_neT c_3_7 (a := 7) (by decide)
  have nc_3_8 := lv_neT c_3_8 (a := 8) (by decide)
  have nc_3_9 := lv_neT c_3_9 (a := 9) (by decide)
  have nc_3_10 := lv_neT c_3_10 (a := 10) (by decide)
  have nc_3_11 := lv_neT c_3_11 (a := 11) (by decide)
  have nc_3_12 := lv_neT c_3_12 (a := 12) (by decide)
  have nc_3_13 := lv_neT c_3_13 (a := 13) (by decide)
  have nc_3_14 := lv_neT c_3_14 (a := 14) (by decide)
  have nc_3_15 := lv_neT c_3_15 (a := 15) (by decide)
  refine lv_tableOut (tgt := 245) hx hb dX7_advance_6 (by omega) (by decide) ?_
  have h := h c_3_1 c_3_2 c_3_3 c_3_4 c_3_5 c_3_6 c_3_7 c_3_8 c_3_9 c_3_10 c_3_11 c_3_12 c_3_13 c_3_14 c_3_15
  refine lv_aload_n hx hb dX7_advance_245 rfl (lv_at hl 1 rfl) ?_
  refine lv_iload_n hx hb dX7_advance_246 rfl (lv_at hl 0 rfl) ?_
  refine cVVwe kmX7_174 hC hw hE (m_X7_advanceControl l D cI cC cZ cJ ad N ea n r_1 g_2 h) rfl rfl ⟨by decide, by decide⟩ (recvW hw rfl 13 rfl) rfl hl.1 (Nat.le_of_ble_eq_true rfl) dX7_advance_247 ⟨Nat.zero_le _, Nat.zero_le _⟩ rfl ?_
  intro g_73 H locs h hw
  exact rtV (wf := (fun u : SG => (wT ad cI cC cZ cJ N u))) g_73 hC hr hlk hw h dX7_advance_250
def V_X7_keepLive (N : Nat) (n : Nat) (G : SG) (post : SG → Prop) : Prop := V_X2_startMove N  (G 2) (fun u_3 => ∀ g_2 : SG, g_2 = uo G 2 u_3 → V_X2_moveRow N 40 n (g_2 1 0 0) (mx (g_2 2) 2 (g_2 1 4)) (fun u_6 => ∀ g_5 : SG, g_5 = uo (uo g_2 2 u_6) 1 (mx (g_2 1) 4 (u_6 2)) → V_X2_moveRow N 1550 n (g_5 9 0 0) (mx (g_5 2) 2 (g_5 9 1)) (fun u_9 => ∀ g_8 : SG, g_8 = uo (uo g_5 2 u_9) 9 (mx (g_5 9) 1 (u_9 2)) → V_X2_moveRow N 60 n (g_8 10 0 0) (mx (g_8 2) 2 (g_8 10 1)) (fun u_12 => ∀ g_11 : SG, g_11 = uo (uo g_8 2 u_12) 10 (mx (g_8 10) 1 (u_12 2)) → V_X2_moveRow N 1488 n (g_11 11 0 0) (mx (g_11 2) 2 (g_11 11 1)) (fun u_15 => ∀ g_14 : SG, g_14 = uo (uo g_11 2 u_15) 11 (mx (g_11 11) 1 (u_15 2)) → V_X2_endMove N n  (g_14 2) (fun u_18 => ∀ g_17 : SG, g_17 = uo g_14 2 u_18 → post g_17))))))
abbrev RM_X7_keepLive : Room := { frames := 5, cells := 0, slots := 0, locals := 114 }
set_option maxHeartbeats 4000000 in
set_option maxRecDepth 100000 in
theorem m_X7_keepLive (l : Launch) (D : va_G) (cI cC cZ cJ : ClassId) (ad : Nat → Nat) (N : Nat) (ea : Nat → Nat → Nat) (n : Nat) (G : SG) {post : SG → Prop} (h : V_X7_keepLive N n G post) : MetVE ea l yX7_keepLive cX7_keepLive 1 RM_X7_keepLive D (ty4 cI cC cZ cJ) (wT ad cI cC cZ cJ N G) [.ref (ad 13)] (fun u : SG => (wT ad cI cC cZ cJ N u)) post := by
  refine mkVE (by decide) (Nat.le_of_ble_eq_true rfl) ?_
  intro p e s m args below meth c A ls hC hr hlk hw hE hl
  have hx := hC.1
  have hb := hC.2.1
  have hl : lv_has ls 1 [(0, .ref (ad 13))] := hl
  unfold V_X7_keepLive at h
  refine lv_aload_n hx hb dX7_keepLive_0 rfl (lv_at hl 0 rfl) ?_
  refine gt (v := .ref (ad 6)) kfX7_26 13 hC hw rfl rfl dX7_keepLive_1 ?_
  refine eV_wT_wHp_6 kmX7_112 hC hw (m_X2_startMove l D cI cC cZ cJ (fun j => ad (6 + j)) N  (G 2) h) rfl rfl ⟨by decide, by decide⟩ rfl hl.1 (Nat.le_of_ble_eq_true rfl) dX7_keepLive_4 ⟨Nat.zero_le _, Nat.zero_le _⟩ rfl ?_
  intro u_3 g_2 H locs eg_2 h hw
  have h := h g_2 eg_2
  refine lv_aload_n hx hb dX7_keepLive_7 rfl (lv_at hl 0 rfl) ?_
  refine gt (v := .ref (ad 6)) kfX7_26 13 hC hw rfl rfl dX7_keepLive_8 ?_
  refine lv_aload_n hx hb dX7_keepLive_11 rfl (lv_at hl 0 rfl) ?_
  refine gt (v := .ref (ad 1)) kfX7_30 13 hC hw rfl rfl dX7_keepLive_12 ?_
  refine gt (v := .ref (ad 5)) kfX7_115 1 hC hw rfl rfl dX7_keepLive_15 ?_
  refine lv_aload_n hx hb dX7_keepLive_18 rfl (lv_at hl 0 rfl) ?_
  refine gt (v := .ref (ad 1)) kfX7_30 13 hC hw rfl rfl dX7_keepLive_19 ?_
  refine gt (v := .int (g_2 1 0 0)) kfX7_119 1 hC hw rfl rfl dX7_keepLive_22 ?_
  refine eV_wT_wHpR_6_5 kmX7_122 hC hw (m_X2_moveRow l D cI cC cZ cJ (fun j => ad (6 + j)) (ad 5) N 40 n (g_2 1 0 0) (mx (g_2 2) 2 (g_2 1 4)) h) rfl rfl ⟨by decide, by decide⟩ rfl hl.1 (Nat.le_of_ble_eq_true rfl) dX7_keepLive_25 ⟨Nat.zero_le _, Nat.zero_le _⟩ rfl ?_
  intro u_6 g_5 H locs eg_5 h hw
  have h := h g_5 eg_5
  refine lv_aload_n hx hb dX7_keepLive_28 rfl (lv_at hl 0 rfl) ?_
  refine gt (v := .ref (ad 6)) kfX7_26 13 hC hw rfl rfl dX7_keepLive_29 ?_
  refine lv_aload_n hx hb dX7_keepLive_32 rfl (lv_at hl 0 rfl) ?_
  refine gt (v := .ref (ad 23)) kfX7_16 13 hC hw rfl rfl dX7_keepLive_33 ?_
  refine gt (v := .ref (ad 24)) kfX7_126 23 hC hw rfl rfl dX7_keepLive_36 ?_
  refine lv_aload_n hx hb dX7_keepLive_39 rfl (lv_at hl 0 rfl) ?_
  refine gt (v := .ref (ad 23)) kfX7_16 13 hC hw rfl rfl dX7_keepLive_40 ?_
  refine gt (v := .int (g_5 9 0 0)) kfX7_127 23 hC hw rfl rfl dX7_keepLive_43 ?_
  refine eV_wT_wHpR_6_24 kmX7_122 hC hw (m_X2_moveRow l D cI cC cZ cJ (fun j => ad (6 + j)) (ad 24) N 1550 n (g_5 9 0 0) (mx (g_5 2) 2 (g_5 9 1)) h) rfl rfl ⟨by decide, by decide⟩ rfl hl.1 (Nat.le_of_ble_eq_true rfl) dX7_keepLive_46 ⟨Nat.zero_le _, Nat.zero_le _⟩ rfl ?_
  intro u_9 g_8 H locs eg_8 h hw
  have h := h g_8 eg_8
  refine lv_aload_n hx hb dX7_keepLive_49 rfl (lv_at hl 0 rfl) ?_
  refine gt (v := .ref (ad 6)) kfX7_26 13 hC hw rfl rfl dX7_keepLive_50 ?_
  refine lv_aload_n hx hb dX7_keepLive_53 rfl (lv_at hl 0 rfl) ?_
  refine gt (v := .ref (ad 25)) kfX7_20 13 hC hw rfl rfl dX7_keepLive_54 ?_
  refine gt (v := .ref (ad 26)) kfX7_126 25 hC hw rfl rfl dX7_keepLive_57 ?_
  refine lv_aload_n hx hb dX7_keepLive_60 rfl (lv_at hl 0 rfl) ?_
  refine gt (v := .ref (ad 25)) kfX7_20 13 hC hw rfl rfl dX7_keepLive_61 ?_
  refine gt (v := .int (g_8 10 0 0)) kfX7_127 25 hC hw rfl rfl dX7_keepLive_64 ?_
  refine eV_wT_wHpR_6_26 kmX7_122 hC hw (m_X2_moveRow l D cI cC cZ cJ (fun j => ad (6 + j)) (ad 26) N 60 n (g_8 10 0 0) (mx (g_8 2) 2 (g_8 10 1)) h) rfl rfl ⟨by decide, by decide⟩ rfl hl.1 (Nat.le_of_ble_eq_true rfl) dX7_keepLive_67 ⟨Nat.zero_le _, Nat.zero_le _⟩ rfl ?_
  intro u_12 g_11 H locs eg_11 h hw
  have h := h g_11 eg_11
  refine lv_aload_n hx hb dX7_keepLive_70 rfl (lv_at hl 0 rfl) ?_
  refine gt (v := .ref (ad 6)) kfX7_26 13 hC hw rfl rfl dX7_keepLive_71 ?_
  refine lv_aload_n hx hb dX7_keepLive_74 rfl (lv_at hl 0 rfl) ?_
  refine gt (v := .ref (ad 27)) kfX7_23 13 hC hw rfl rfl dX7_keepLive_75 ?_
  refine gt (v := .ref (ad 28)) kfX7_126 27 hC hw rfl rfl dX7_keepLive_78 ?_
  refine lv_aload_n hx hb dX7_keepLive_81 rfl (lv_at hl 0 rfl) ?_
  refine gt (v := .ref (ad 27)) kfX7_23 13 hC hw rfl rfl dX7_keepLive_82 ?_
  refine gt (v := .int (g_11 11 0 0)) kfX7_127 27 hC hw rfl rfl dX7_keepLive_85 ?_
  refine eV_wT_wHpR_6_28 kmX7_122 hC hw (m_X2_moveRow l D cI cC cZ cJ (fun j => ad (6 + j)) (ad 28) N 1488 n (g_11 11 0 0) (mx (g_11 2) 2 (g_11 11 1)) h) rfl rfl ⟨by decide, by decide⟩ rfl hl.1 (Nat.le_of_ble_eq_true rfl) dX7_keepLive_88 ⟨Nat.zero_le _, Nat.zero_le _⟩ rfl ?_
  intro u_15 g_14 H locs eg_14 h hw
  have h := h g_14 eg_14
  refine lv_aload_n hx hb dX7_keepLive_91 rfl (lv_at hl 0 rfl) ?_
  refine gt (v := .ref (ad 6)) kfX7_26 13 hC hw rfl rfl dX7_keepLive_92 ?_
  refine eV_wT_wHp_6 kmX7_130 hC hw (m_X2_endMove l D cI cC cZ cJ (fun j => ad (6 + j)) N n  (g_14 2) h) rfl rfl ⟨by decide, by decide⟩ rfl hl.1 (Nat.le_of_ble_eq_true rfl) dX7_keepLive_95 ⟨Nat.zero_le _, Nat.zero_le _⟩ rfl ?_
  intro u_18 g_17 H locs eg_17 h hw
  have h := h g_17 eg_17
  exact rtV (wf := (fun u : SG => (wT ad cI cC cZ cJ N u))) g_17 hC hr hlk hw h dX7_keepLive_98
def V_X7_end (N : Nat) (G : SG) (post : SG → Prop) : Prop := ((¬ (G 4 0 2) = 0 → ∀ g_2 : SG, g_2 = uo G 4 (us (G 4) 7 ((G 4 0 7) + (1 : Int32))) → V_X8_cut 1550 (0 : Int32) (g_2 9) (fun u_5 => ∀ g_4 : SG, g_4 = uo g_2 9 u_5 → V_X8_cut 60 (0 : Int32) (g_4 10) (fun u_8 => ∀ g_7 : SG, g_7 = uo g_4 10 u_8 → V_X8_cut 1488 (0 : Int32) (g_7 11) (fun u_11 => ∀ g_10 : SG, g_10 = uo g_7 11 u_11 → post g_10)))) ∧ ((G 4 0 2) = 0 → V_X8_peek 1550 (0 : Int32) (G 9) (fun r_12 u_14 => ∀ g_13 : SG, g_13 = uo G 9 u_14 → V_X9_setWord (1 : Int32) r_12 (g_13 1) (fun u_17 => ∀ g_16 : SG, g_16 = uo g_13 1 u_17 → ∀ g_18 : SG, g_18 = uo g_16 4 (us (g_16 4) 6 ((g_16 4 0 6) + (1 : Int32))) → V_X8_cut 1550 (0 : Int32) (g_18 9) (fun u_21 => ∀ g_20 : SG, g_20 = uo g_18 9 u_21 → V_X8_cut 60 (0 : Int32) (g_20 10) (fun u_24 => ∀ g_23 : SG, g_23 = uo g_20 10 u_24 → V_X8_cut 1488 (0 : Int32) (g_23 11) (fun u_27 => ∀ g_26 : SG, g_26 = uo g_23 11 u_27 → post g_26)))))))
abbrev RM_X7_end : Room := { frames := 2, cells := 0, slots := 0, locals := 43 }
set_option maxHeartbeats 4000000 in
set_option maxRecDepth 100000 in
theorem m_X7_end (l : Launch) (D : va_G) (cI cC cZ cJ : ClassId) (ad : Nat → Nat) (N : Nat) (ea : Nat → Nat → Nat) (G : SG) {post : SG → Prop} (h : V_X7_end N G post) : MetVE ea l yX7_end cX7_end 1 RM_X7_end D (ty4 cI cC cZ cJ) (wT ad cI cC cZ cJ N G) [.ref (ad 13)] (fun u : SG => (wT ad cI cC cZ cJ N u)) post := by
  refine mkVE (by decide) (Nat.le_of_ble_eq_true rfl) ?_
  intro p e s m args below meth c A ls hC hr hlk hw hE hl
  have hx := hC.1
  have hb := hC.2.1
  have hl : lv_has ls 1 [(0, .ref (ad 13))] := hl
  unfold V_X7_end at h
  refine lv_aload_n hx hb dX7_end_0 rfl (lv_at hl 0 rfl) ?_
  refine gt (v := .int (G 4 0 2)) kfX7_67 13 hC hw rfl rfl dX7_end_1 ?_
  refine lv_if_ne (tgt := 36) hx hb dX7_end_4 (by decide) (fun c_1 => ?_) (fun c_1 => ?_)
  · have h := h.1 c_1
    refine lv_aload_n hx hb dX7_end_36 rfl (lv_at hl 0 rfl) ?_
    refine lv_dup hx hb dX7_end_37 rfl ?_
    refine gt (v := .int (G 4 0 7)) kfX7_55 13 hC hw rfl rfl dX7_end_38 ?_
    refine lv_iconst (v := (1 : Int32)) hx hb dX7_end_41 (by decide) ?_
    refine lv_iadd hx hb dX7_end_42 ?_
    refine pwT_13_15 kpX7_55 hC hw dX7_end_43 (fun H locs g_2 eg_2 hw => ?_)
    have h := h g_2 eg_2
    refine lv_aload_n hx hb dX7_end_46 rfl (lv_at hl 0 rfl) ?_
    refine gt (v := .ref (ad 23)) kfX7_16 13 hC hw rfl rfl dX7_end_47 ?_
    refine lv_iconst (v := (0 : Int32)) hx hb dX7_end_50 (by decide) ?_
    refine eV_wT_wSt_23 kmX7_109 hC hw (m_X8_cut l D cI cC cZ cJ (fun j => ad (23 + j)) 1550 (0 : Int32) (g_2 9) h) rfl rfl ⟨by decide, by decide⟩ rfl hl.1 (Nat.le_of_ble_eq_true rfl) dX7_end_51 ⟨Nat.zero_le _, Nat.zero_le _⟩ rfl ?_
    intro u_5 g_4 H locs eg_4 h hw
    have h := h g_4 eg_4
    refine lv_aload_n hx hb dX7_end_54 rfl (lv_at hl 0 rfl) ?_
    refine gt (v := .ref (ad 25)) kfX7_20 13 hC hw rfl rfl dX7_end_55 ?_
    refine lv_iconst (v := (0 : Int32)) hx hb dX7_end_58 (by decide) ?_
    refine eV_wT_wSt_25 kmX7_109 hC hw (m_X8_cut l D cI cC cZ cJ (fun j => ad (25 + j)) 60 (0 : Int32) (g_4 10) h) rfl rfl ⟨by decide, by decide⟩ rfl hl.1 (Nat.le_of_ble_eq_true rfl) dX7_end_59 ⟨Nat.zero_le _, Nat.zero_le _⟩ rfl ?_
    intro u_8 g_7 H locs eg_7 h hw
    have h := h g_7 eg_7
    refine lv_aload_n hx hb dX7_end_62 rfl (lv_at hl 0 rfl) ?_
    refine gt (v := .ref (ad 27)) kfX7_23 13 hC hw rfl rfl dX7_end_63 ?_
    refine lv_iconst (v := (0 : Int32)) hx hb dX7_end_66 (by decide) ?_
    refine eV_wT_wSt_27 kmX7_109 hC hw (m_X8_cut l D cI cC cZ cJ (fun j => ad (27 + j)) 1488 (0 : Int32) (g_7 11) h) rfl rfl ⟨by decide, by decide⟩ rfl hl.1 (Nat.le_of_ble_eq_true rfl) dX7_end_67 ⟨Nat.zero_le _, Nat.zero_le _⟩ rfl ?_
    intro u_11 g_10 H locs eg_10 h hw
    have h := h g_10 eg_10
    exact rtV (wf := (fun u : SG => (wT ad cI cC cZ cJ N u))) g_10 hC hr hlk hw h dX7_end_70
  · have h := h.2 c_1
    refine lv_aload_n hx hb dX7_end_7 rfl (lv_at hl 0 rfl) ?_
    refine gt (v := .ref (ad 1)) kfX7_30 13 hC hw rfl rfl dX7_end_8 ?_
    refine lv_iconst (v := (1 : Int32)) hx hb dX7_end_11 (by decide) ?_
    refine lv_aload_n hx hb dX7_end_12 rfl (lv_at hl 0 rfl) ?_
    refine gt (v := .ref (ad 23)) kfX7_16 13 hC hw rfl rfl dX7_end_13 ?_
    refine lv_iconst (v := (0 : Int32)) hx hb dX7_end_16 (by decide) ?_
    refine eI_wT_wSt_23 kmX7_99 hC hw (m_X8_peek l D cI cC cZ cJ (fun j => ad (23 + j)) 1550 (0 : Int32) (G 9) h) rfl rfl ⟨by decide, by decide⟩ rfl hl.1 (Nat.le_of_ble_eq_true rfl) dX7_end_17 ⟨Nat.zero_le _, Nat.zero_le _⟩ rfl ?_
    intro r_12 u_14 g_13 H locs eg_13 h hw
    have h := h g_13 eg_13
    refine eV_wT_wSy_1 kmX7_102 hC hw (m_X9_setWord l D cI cC cZ cJ (fun j => ad (1 + j)) (1 : Int32) r_12 (g_13 1) h) rfl rfl ⟨by decide, by decide⟩ rfl hl.1 (Nat.le_of_ble_eq_true rfl) dX7_end_20 ⟨Nat.zero_le _, Nat.zero_le _⟩ rfl ?_
    intro u_17 g_16 H locs eg_16 h hw
    have h := h g_16 eg_16
    refine lv_aload_n hx hb dX7_end_23 rfl (lv_at hl 0 rfl) ?_
    refine lv_dup hx hb dX7_end_24 rfl ?_
    refine gt (v := .int (g_16 4 0 6)) kfX7_106 13 hC hw rfl rfl dX7_end_25 ?_
    refine lv_iconst (v := (1 : Int32)) hx hb dX7_end_28 (by decide) ?_
    refine lv_iadd hx hb dX7_end_29 ?_
    refine pwT_13_14 kpX7_106 hC hw dX7_end_30 (fun H locs g_18 eg_18 hw => ?_)
    have h := h g_18 eg_18
    refine lv_goto (tgt := 46) hx hb dX7_end_33 (by decide) ?_
    refine lv_aload_n hx hb dX7_end_46 rfl (lv_at hl 0 rfl) ?_
    refine gt (v := .ref (ad 23)) kfX7_16 13 hC hw rfl rfl dX7_end_47 ?_
    refine lv_iconst (v := (0 : Int32)) hx hb dX7_end_50 (by decide) ?_
    refine eV_wT_wSt_23 kmX7_109 hC hw (m_X8_cut l D cI cC cZ cJ (fun j => ad (23 + j)) 1550 (0 : Int32) (g_18 9) h) rfl rfl ⟨by decide, by decide⟩ rfl hl.1 (Nat.le_of_ble_eq_true rfl) dX7_end_51 ⟨Nat.zero_le _, Nat.zero_le _⟩ rfl ?_
    intro u_21 g_20 H locs eg_20 h hw
    have h := h g_20 eg_20
    refine lv_aload_n hx hb dX7_end_54 rfl (lv_at hl 0 rfl) ?_
    refine gt (v := .ref (ad 25)) kfX7_20 13 hC hw rfl rfl dX7_end_55 ?_
    refine lv_iconst (v := (0 : Int32)) hx hb dX7_end_58 (by decide) ?_
    refine eV_wT_wSt_25 kmX7_109 hC hw (m_X8_cut l D cI cC cZ cJ (fun j => ad (25 + j)) 60 (0 : Int32) (g_20 10) h) rfl rfl ⟨by decide, by decide⟩ rfl hl.1 (Nat.le_of_ble_eq_true rfl) dX7_end_59 ⟨Nat.zero_le _, Nat.zero_le _⟩ rfl ?_
    intro u_24 g_23 H locs eg_23 h hw
    have h := h g_23 eg_23
    refine lv_aload_n hx hb dX7_end_62 rfl (lv_at hl 0 rfl) ?_
    refine gt (v := .ref (ad 27)) kfX7_23 13 hC hw rfl rfl dX7_end_63 ?_
    refine lv_iconst (v := (0 : Int32)) hx hb dX7_end_66 (by decide) ?_
    refine eV_wT_wSt_27 kmX7_109 hC hw (m_X8_cut l D cI cC cZ cJ (fun j => ad (27 + j)) 1488 (0 : Int32) (g_23 11) h) rfl rfl ⟨by decide, by decide⟩ rfl hl.1 (Nat.le_of_ble_eq_true rfl) dX7_end_67 ⟨Nat.zero_le _, Nat.zero_le _⟩ rfl ?_
    intro u_27 g_26 H locs eg_26 h hw
    have h := h g_26 eg_26
    exact rtV (wf := (fun u : SG => (wT ad cI cC cZ cJ N u))) g_26 hC hr hlk hw h dX7_end_70
def V_X7_run_32 (N : Nat) (post : Int32 → SG → Prop) : Nat → Int32 → SG → Prop
  | 0, _, _ => False
  | n + 1, x3, G => (((1000000 : Int32) ≤ x3 → V_X7_end N  G (fun g_3 => post (g_3 4 0 2) g_3)) ∧ (¬ (1000000 : Int32) ≤ x3 → ((¬ (G 4 0 1) = 0 → V_X7_end N  G (fun g_6 => post (g_6 4 0 2) g_6)) ∧ ((G 4 0 1) = 0 → ((¬ (G 4 0 2) = 0 → V_X7_end N  G (fun g_9 => post (g_9 4 0 2) g_9)) ∧ ((G 4 0 2) = 0 → ∀ x_10 : Int32, x_10 = (G 4 0 0) → ∀ g_11 : SG, g_11 = uo G 4 (us (G 4) 3 (0 : Int32)) → V_X7_advance N n  g_11 (fun g_13 => (((g_13 4 0 3) ≤ 0 → ∀ x_15 : Int32, x_15 = x3 + (1 : Int32) → V_X7_run_32 N post n x_15 g_13) ∧ (¬ (g_13 4 0 3) ≤ 0 → ∀ g_16 : SG, g_16 = uo g_13 4 (us (g_13 4) 0 x_10) → V_X7_keepLive N n  g_16 (fun g_18 => V_X2_hasRoom N (g_18 4 0 3) (g_18 2) (fun r_19 u_21 => ∀ g_20 : SG, g_20 = uo g_18 2 u_21 → ((r_19 = 0 → ∀ g_23 : SG, g_23 = uo g_20 4 (us (g_20 4) 2 (2 : Int32)) → ∀ x_24 : Int32, x_24 = x3 + (1 : Int32) → V_X7_run_32 N post n x_24 g_23) ∧ (¬ r_19 = 0 → ∀ g_25 : SG, g_25 = uo g_20 4 (us (g_20 4) 2 (0 : Int32)) → ∀ x_26 : Int32, x_26 = x3 + (1 : Int32) → V_X7_run_32 N post n x_26 g_25)))))))))))))
def V_X7_run (N : Nat) (n : Nat) (x1 : Int32) (G : SG) (post : Int32 → SG → Prop) : Prop := V_X1_compile N n x1 G (fun r_27 g_28 => ((0 ≤ r_27 → V_X7_begin N r_27 g_28 (fun g_31 => ∀ x_32 : Int32, x_32 = (0 : Int32) → V_X7_run_32 N post n x_32 g_31)) ∧ (¬ 0 ≤ r_27 → ∀ g_33 : SG, g_33 = uo g_28 4 (us (g_28 4) 7 ((g_28 4 0 7) + (1 : Int32))) → post (1 : Int32) g_33)))
abbrev RM_X7_run : Room := { frames := 124, cells := 0, slots := 0, locals := 3145 }
set_option maxHeartbeats 4000000 in
set_option maxRecDepth 100000 in
theorem m_X7_run (l : Launch) (D : va_G) (cI cC cZ cJ : ClassId) (ad : Nat → Nat) (N : Nat) (ea : Nat → Nat → Nat) (n : Nat) (x1 : Int32) (G : SG) {post : Int32 → SG → Prop} (h : V_X7_run N n x1 G post) : MetIE ea l yX7_run cX7_run 5 .int RM_X7_run D (ty4 cI cC cZ cJ) (wT ad cI cC cZ cJ N G) [.ref (ad 13), .int x1] (fun u : SG => (wT ad cI cC cZ cJ N u)) post := by
  refine mkIE (by decide) (Nat.le_of_ble_eq_true rfl) ?_
  intro p e s m args below meth c A ls hC hr hlk hw hE hl
  have hx := hC.1
  have hb := hC.2.1
  have hl : lv_has ls 5 [(0, .ref (ad 13)), (1, .int x1)] := hl
  have w_32 : ∀ (n : Nat) (x3 : Int32) (G : SG) (H : Heap) (locs : List Loc) (ls : Array Slot), V_X7_run_32 N post n x3 G → Wd D (ty4 cI cC cZ cJ) A s (wT ad cI cC cZ cJ N G) H locs → lv_has ls 5 [(0, .ref (ad 13)), (3, .int x3)] → W p l e RM_X7_run s m args below meth c H locs 0 0 (QI below D (ty4 cI cC cZ cJ) A args s (fun u : SG => (wT ad cI cC cZ cJ N u)) post) (F0 m 32 ls []) := by
    intro n
    induction n with
    | zero =>
      intro x3 G H locs ls h
      exact False.elim h
    | succ n ih =>
      intro x3 G H locs ls h hw hl
      rw [V_X7_run_32] at h
      refine lv_iload_n hx hb dX7_run_32 rfl (lv_at hl 1 rfl) ?_
      refine lv_ldc (v := (1000000 : Int32)) hx hb hC.2.2.2.1 (hC.2.2.2.2 _ (List.mem_cons_of_mem _ kcX7_62)) dX7_run_33 ?_
      refine lv_icmp_ge (tgt := 113) hx hb dX7_run_35 (by decide) (fun c_1 => ?_) (fun c_1 => ?_)
      · have h := h.1 c_1
        refine lv_aload_n hx hb dX7_run_113 rfl (lv_at hl 0 rfl) ?_
        refine cVVwe kmX7_88 hC hw hE (m_X7_end l D cI cC cZ cJ ad N ea  G h) rfl rfl ⟨by decide, by decide⟩ (recvW hw rfl 13 rfl) rfl hl.1 (Nat.le_of_ble_eq_true rfl) dX7_run_114 ⟨Nat.zero_le _, Nat.zero_le _⟩ rfl ?_
        intro g_3 H locs h hw
        refine lv_aload_n hx hb dX7_run_117 rfl (lv_at hl 0 rfl) ?_
        refine gt (v := .int (g_3 4 0 2)) kfX7_67 13 hC hw rfl rfl dX7_run_118 ?_
        exact rtI (wf := (fun u : SG => (wT ad cI cC cZ cJ N u))) g_3 hC hr hlk hw rfl h dX7_run_121
      · have h := h.2 c_1
        refine lv_aload_n hx hb dX7_run_38 rfl (lv_at hl 0 rfl) ?_
        refine gt (v := .int (G 4 0 1)) kfX7_63 13 hC hw rfl rfl dX7_run_39 ?_
        refine lv_if_ne (tgt := 113) hx hb dX7_run_42 (by decide) (fun c_4 => ?_) (fun c_4 => ?_)
        · have h := h.1 c_4
          refine lv_aload_n hx hb dX7_run_113 rfl (lv_at hl 0 rfl) ?_
          refine cVVwe kmX7_88 hC hw hE (m_X7_end l D cI cC cZ cJ ad N ea  G h) rfl rfl ⟨by decide, by decide⟩ (recvW hw rfl 13 rfl) rfl hl.1 (Nat.le_of_ble_eq_true rfl) dX7_run_114 ⟨Nat.zero_le _, Nat.zero_le _⟩ rfl ?_
          intro g_6 H locs h hw
          refine lv_aload_n hx hb dX7_run_117 rfl (lv_at hl 0 rfl) ?_
          refine gt (v := .int (g_6 4 0 2)) kfX7_67 13 hC hw rfl rfl dX7_run_118 ?_
          exact rtI (wf := (fun u : SG => (wT ad cI cC cZ cJ N u))) g_6 hC hr hlk hw rfl h dX7_run_121
        · have h := h.2 c_4
          refine lv_aload_n hx hb dX7_run_45 rfl (lv_at hl 0 rfl) ?_
          refine gt (v := .int (G 4 0 2)) kfX7_67 13 hC hw rfl rfl dX7_run_46 ?_
          refine lv_if_ne (tgt := 113) hx hb dX7_run_49 (by decide) (fun c_7 => ?_) (fun c_7 => ?_)
          · have h := h.1 c_7
            refine lv_aload_n hx hb dX7_run_113 rfl (lv_at hl 0 rfl) ?_
            refine cVVwe kmX7_88 hC hw hE (m_X7_end l D cI cC cZ cJ ad N ea  G h) rfl rfl ⟨by decide, by decide⟩ (recvW hw rfl 13 rfl) rfl hl.1 (Nat.le_of_ble_eq_true rfl) dX7_run_114 ⟨Nat.zero_le _, Nat.zero_le _⟩ rfl ?_
            intro g_9 H locs h hw
            refine lv_aload_n hx hb dX7_run_117 rfl (lv_at hl 0 rfl) ?_
            refine gt (v := .int (g_9 4 0 2)) kfX7_67 13 hC hw rfl rfl dX7_run_118 ?_
            exact rtI (wf := (fun u : SG => (wT ad cI cC cZ cJ N u))) g_9 hC hr hlk hw rfl h dX7_run_121
          · have h := h.2 c_7
            refine lv_aload_n hx hb dX7_run_52 rfl (lv_at hl 0 rfl) ?_
            refine gt (v := .int (G 4 0 0)) kfX7_70 13 hC hw rfl rfl dX7_run_53 ?_
            refine lv_topi (fun x_10 ex_10 => ?_)
            have h := h x_10 ex_10
            refine lv_istore (lv' := [(4, .int x_10), (0, .ref (ad 13)), (3, .int x3)]) hx hb dX7_run_56 hl (by decide) rfl (fun ls hl => ?_)
            refine lv_aload_n hx hb dX7_run_58 rfl (lv_at hl 1 rfl) ?_
            refine lv_iconst (v := (0 : Int32)) hx hb dX7_run_59 (by decide) ?_
            refine pwT_13_11 kpX7_73 hC hw dX7_run_60 (fun H locs g_11 eg_11 hw => ?_)
            have h := h g_11 eg_11
            refine lv_aload_n hx hb dX7_run_63 rfl (lv_at hl 1 rfl) ?_
            refine cVVwe kmX7_76 hC hw hE (m_X7_advance l D cI cC cZ cJ ad N ea n  g_11 h) rfl rfl ⟨by decide, by decide⟩ (recvW hw rfl 13 rfl) rfl hl.1 (Nat.le_of_ble_eq_true rfl) dX7_run_64 ⟨Nat.zero_le _, Nat.zero_le _⟩ rfl ?_
            intro g_13 H locs h hw
            refine lv_aload_n hx hb dX7_run_67 rfl (lv_at hl 1 rfl) ?_
            refine gt (v := .int (g_13 4 0 3)) kfX7_73 13 hC hw rfl rfl dX7_run_68 ?_
            refine lv_if_le (tgt := 107) hx hb dX7_run_71 (by decide) (fun c_14 => ?_) (fun c_14 => ?_)
            · have h := h.1 c_14
              obtain ⟨x_15, ex_15⟩ : ∃ y : Int32, y = x3 + (1 : Int32) := ⟨_, rfl⟩
              have h := h x_15 ex_15
              refine lv_iinc (v := x_15) (lv' := [(3, .int x_15), (4, .int x_10), (0, .ref (ad 13))]) hx hb dX7_run_107 hl (k := 2) rfl (by rw [ex_15]; rfl) (by decide) rfl (fun ls hl => ?_)
              refine lv_goto (tgt := 32) hx hb dX7_run_110 (by decide) ?_
              exact ih x_15 g_13 _ _ _ h hw (lv_sub hl [2, 0] rfl)
            · have h := h.2 c_14
              refine lv_aload_n hx hb dX7_run_74 rfl (lv_at hl 1 rfl) ?_
              refine lv_iload hx hb dX7_run_75 (lv_at hl 0 rfl) ?_
              refine pwT_13_8 kpX7_70 hC hw dX7_run_77 (fun H locs g_16 eg_16 hw => ?_)
              have h := h g_16 eg_16
              refine lv_aload_n hx hb dX7_run_80 rfl (lv_at hl 1 rfl) ?_
              refine cVVwe kmX7_79 hC hw hE (m_X7_keepLive l D cI cC cZ cJ ad N ea n  g_16 h) rfl rfl ⟨by decide, by decide⟩ (recvW hw rfl 13 rfl) rfl hl.1 (Nat.le_of_ble_eq_true rfl) dX7_run_81 ⟨Nat.zero_le _, Nat.zero_le _⟩ rfl ?_
              intro g_18 H locs h hw
              refine lv_aload_n hx hb dX7_run_84 rfl (lv_at hl 1 rfl) ?_
              refine lv_aload_n hx hb dX7_run_85 rfl (lv_at hl 1 rfl) ?_
              refine gt (v := .ref (ad 6)) kfX7_26 13 hC hw rfl rfl dX7_run_86 ?_
              refine lv_aload_n hx hb dX7_run_89 rfl (lv_at hl 1 rfl) ?_
              refine gt (v := .int (g_18 4 0 3)) kfX7_73 13 hC hw rfl rfl dX7_run_90 ?_
              refine eI_wT_wHp_6 kmX7_82 hC hw (m_X2_hasRoom l D cI cC cZ cJ (fun j => ad (6 + j)) N (g_18 4 0 3) (g_18 2) h) rfl rfl ⟨by decide, by decide⟩ rfl hl.1 (Nat.le_of_ble_eq_true rfl) dX7_run_93 ⟨Nat.zero_le _, Nat.zero_le _⟩ rfl ?_
              intro r_19 u_21 g_20 H locs eg_20 h hw
              have h := h g_20 eg_20
              refine lv_if_eq (tgt := 103) hx hb dX7_run_96 (by decide) (fun c_22 => ?_) (fun c_22 => ?_)
              · have h := h.1 c_22
                refine lv_iconst (v := (2 : Int32)) hx hb dX7_run_103 (by decide) ?_
                refine pwT_13_10 kpX7_67 hC hw dX7_run_104 (fun H locs g_23 eg_23 hw => ?_)
                have h := h g_23 eg_23
                obtain ⟨x_24, ex_24⟩ : ∃ y : Int32, y = x3 + (1 : Int32) := ⟨_, rfl⟩
                have h := h x_24 ex_24
                refine lv_iinc (v := x_24) (lv' := [(3, .int x_24), (4, .int x_10), (0, .ref (ad 13))]) hx hb dX7_run_107 hl (k := 2) rfl (by rw [ex_24]; rfl) (by decide) rfl (fun ls hl => ?_)
                refine lv_goto (tgt := 32) hx hb dX7_run_110 (by decide) ?_
                exact ih x_24 g_23 _ _ _ h hw (lv_sub hl [2, 0] rfl)
              · have h := h.2 c_22
                refine lv_iconst (v := (0 : Int32)) hx hb dX7_run_99 (by decide) ?_
                refine lv_goto (tgt := 104) hx hb dX7_run_100 (by decide) ?_
                refine pwT_13_10 kpX7_67 hC hw dX7_run_104 (fun H locs g_25 eg_25 hw => ?_)
                have h := h g_25 eg_25
                obtain ⟨x_26, ex_26⟩ : ∃ y : Int32, y = x3 + (1 : Int32) := ⟨_, rfl⟩
                have h := h x_26 ex_26
                refine lv_iinc (v := x_26) (lv' := [(3, .int x_26), (4, .int x_10), (0, .ref (ad 13))]) hx hb dX7_run_107 hl (k := 2) rfl (by rw [ex_26]; rfl) (by decide) rfl (fun ls hl => ?_)
                refine lv_goto (tgt := 32) hx hb dX7_run_110 (by decide) ?_
                exact ih x_26 g_25 _ _ _ h hw (lv_sub hl [2, 0] rfl)
  unfold V_X7_run at h
  refine lv_aload_n hx hb dX7_run_0 rfl (lv_at hl 0 rfl) ?_
  refine gt (v := .ref (ad 19)) kfX7_47 13 hC hw rfl rfl dX7_run_1 ?_
  refine lv_iload_n hx hb dX7_run_4 rfl (lv_at hl 1 rfl) ?_
  refine cVIwe kmX7_51 hC hw hE (m_X1_compile l D cI cC cZ cJ ad N ea n x1 G h) rfl rfl ⟨by decide, by decide⟩ (recvW hw rfl 19 rfl) rfl hl.1 (Nat.le_of_ble_eq_true rfl) dX7_run_5 ⟨Nat.zero_le _, Nat.zero_le _⟩ rfl ?_
  intro r_27 g_28 H locs h hw
  refine lv_istore_n (lv' := [(2, .int r_27), (0, .ref (ad 13)), (1, .int x1)]) hx hb dX7_run_8 rfl hl (by decide) rfl (fun ls hl => ?_)
  refine lv_iload_n hx hb dX7_run_9 rfl (lv_at hl 0 rfl) ?_
  refine lv_if_ge (tgt := 25) hx hb dX7_run_10 (by decide) (fun c_29 => ?_) (fun c_29 => ?_)
  · have h := h.1 c_29
    refine lv_aload_n hx hb dX7_run_25 rfl (lv_at hl 1 rfl) ?_
    refine lv_iload_n hx hb dX7_run_26 rfl (lv_at hl 0 rfl) ?_
    refine cVVwe kmX7_59 hC hw hE (m_X7_begin l D cI cC cZ cJ ad N ea r_27 g_28 h) rfl rfl ⟨by decide, by decide⟩ (recvW hw rfl 13 rfl) rfl hl.1 (Nat.le_of_ble_eq_true rfl) dX7_run_27 ⟨Nat.zero_le _, Nat.zero_le _⟩ rfl ?_
    intro g_31 H locs h hw
    refine lv_iconst (v := (0 : Int32)) hx hb dX7_run_30 (by decide) ?_
    refine lv_topi (fun x_32 ex_32 => ?_)
    have h := h x_32 ex_32
    refine lv_istore_n (lv' := [(3, .int x_32), (2, .int r_27), (0, .ref (ad 13)), (1, .int x1)]) hx hb dX7_run_31 rfl hl (by decide) rfl (fun ls hl => ?_)
    exact w_32 n x_32 g_31 _ _ _ h hw (lv_sub hl [2, 0] rfl)
  · have h := h.2 c_29
    refine lv_aload_n hx hb dX7_run_13 rfl (lv_at hl 1 rfl) ?_
    refine lv_dup hx hb dX7_run_14 rfl ?_
    refine gt (v := .int (g_28 4 0 7)) kfX7_55 13 hC hw rfl rfl dX7_run_15 ?_
    refine lv_iconst (v := (1 : Int32)) hx hb dX7_run_18 (by decide) ?_
    refine lv_iadd hx hb dX7_run_19 ?_
    refine pwT_13_15 kpX7_55 hC hw dX7_run_20 (fun H locs g_33 eg_33 hw => ?_)
    have h := h g_33 eg_33
    refine lv_iconst (v := (1 : Int32)) hx hb dX7_run_23 (by decide) ?_
    exact rtI (wf := (fun u : SG => (wT ad cI cC cZ cJ N u))) g_33 hC hr hlk hw rfl h dX7_run_24
