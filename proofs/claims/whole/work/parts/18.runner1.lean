def V_X7_begin (N : Nat) (x1 : Int32) (G : SG) (post : SG → Prop) : Prop := ∀ g_1 : SG, g_1 = uo G 4 (us (G 4) 0 x1) → ∀ g_2 : SG, g_2 = uo g_1 4 (us (g_1 4) 1 (0 : Int32)) → ∀ g_3 : SG, g_3 = uo g_2 4 (us (g_2 4) 2 (0 : Int32)) → ∀ g_4 : SG, g_4 = uo g_3 4 (us (g_3 4) 4 (0 : Int32)) → ∀ g_5 : SG, g_5 = uo g_4 4 (us (g_4 4) 5 (0 : Int32)) → post g_5
abbrev RM_X7_begin : Room := { frames := 0, cells := 0, slots := 0, locals := 0 }
set_option maxHeartbeats 4000000 in
set_option maxRecDepth 100000 in
theorem m_X7_begin (l : Launch) (D : va_G) (cI cC cZ cJ : ClassId) (ad : Nat → Nat) (N : Nat) (ea : Nat → Nat → Nat) (x1 : Int32) (G : SG) {post : SG → Prop} (h : V_X7_begin N x1 G post) : MetVE ea l yX7_begin cX7_begin 2 RM_X7_begin D (ty4 cI cC cZ cJ) (wT ad cI cC cZ cJ N G) [.ref (ad 13), .int x1] (fun u : SG => (wT ad cI cC cZ cJ N u)) post := by
  refine mkVE (by decide) (Nat.le_of_ble_eq_true rfl) ?_
  intro p e s m args below meth c A ls hC hr hlk hw hE hl
  have hx := hC.1
  have hb := hC.2.1
  have hl : lv_has ls 2 [(0, .ref (ad 13)), (1, .int x1)] := hl
  unfold V_X7_begin at h
  refine lv_aload_n hx hb dX7_begin_0 rfl (lv_at hl 0 rfl) ?_
  refine lv_iload_n hx hb dX7_begin_1 rfl (lv_at hl 1 rfl) ?_
  refine pwT_13_8 kpX7_70 hC hw dX7_begin_2 (fun H locs g_1 eg_1 hw => ?_)
  have h := h g_1 eg_1
  refine lv_aload_n hx hb dX7_begin_5 rfl (lv_at hl 0 rfl) ?_
  refine lv_iconst (v := (0 : Int32)) hx hb dX7_begin_6 (by decide) ?_
  refine pwT_13_9 kpX7_63 (by decide) hC hw dX7_begin_7 (fun H locs g_2 eg_2 hw => ?_)
  have h := h g_2 eg_2
  refine lv_aload_n hx hb dX7_begin_10 rfl (lv_at hl 0 rfl) ?_
  refine lv_iconst (v := (0 : Int32)) hx hb dX7_begin_11 (by decide) ?_
  refine pwT_13_10 kpX7_67 hC hw dX7_begin_12 (fun H locs g_3 eg_3 hw => ?_)
  have h := h g_3 eg_3
  refine lv_aload_n hx hb dX7_begin_15 rfl (lv_at hl 0 rfl) ?_
  refine lv_iconst (v := (0 : Int32)) hx hb dX7_begin_16 (by decide) ?_
  refine pwT_13_12 kpX7_91 hC hw dX7_begin_17 (fun H locs g_4 eg_4 hw => ?_)
  have h := h g_4 eg_4
  refine lv_aload_n hx hb dX7_begin_20 rfl (lv_at hl 0 rfl) ?_
  refine lv_iconst (v := (0 : Int32)) hx hb dX7_begin_21 (by decide) ?_
  refine pwT_13_13 kpX7_94 hC hw dX7_begin_22 (fun H locs g_5 eg_5 hw => ?_)
  have h := h g_5 eg_5
  exact rtV (wf := (fun u : SG => (wT ad cI cC cZ cJ N u))) g_5 hC hr hlk hw h dX7_begin_25
def V_X7_operand (N : Nat) (G : SG) (post : Int32 → SG → Prop) : Prop := V_X1_at N (G 4 0 0) G (fun r_1 g_2 => ∀ g_3 : SG, g_3 = uo g_2 4 (us (g_2 4) 0 ((g_2 4 0 0) + (1 : Int32))) → post r_1 g_3)
abbrev RM_X7_operand : Room := { frames := 1, cells := 0, slots := 0, locals := 21 }
set_option maxHeartbeats 4000000 in
set_option maxRecDepth 100000 in
theorem m_X7_operand (l : Launch) (D : va_G) (cI cC cZ cJ : ClassId) (ad : Nat → Nat) (N : Nat) (ea : Nat → Nat → Nat) (G : SG) {post : Int32 → SG → Prop} (h : V_X7_operand N G post) : MetIE ea l yX7_operand cX7_operand 2 .int RM_X7_operand D (ty4 cI cC cZ cJ) (wT ad cI cC cZ cJ N G) [.ref (ad 13)] (fun u : SG => (wT ad cI cC cZ cJ N u)) post := by
  refine mkIE (by decide) (Nat.le_of_ble_eq_true rfl) ?_
  intro p e s m args below meth c A ls hC hr hlk hw hE hl
  have hx := hC.1
  have hb := hC.2.1
  have hl : lv_has ls 2 [(0, .ref (ad 13))] := hl
  unfold V_X7_operand at h
  refine lv_aload_n hx hb dX7_operand_0 rfl (lv_at hl 0 rfl) ?_
  refine gt (v := .ref (ad 19)) kfX7_47 13 hC hw rfl rfl dX7_operand_1 ?_
  refine lv_aload_n hx hb dX7_operand_4 rfl (lv_at hl 0 rfl) ?_
  refine gt (v := .int (G 4 0 0)) kfX7_70 13 hC hw rfl rfl dX7_operand_5 ?_
  refine cVIwe kmX7_133 hC hw hE (m_X1_at l D cI cC cZ cJ ad N ea (G 4 0 0) G h) rfl rfl ⟨by decide, by decide⟩ (recvW hw rfl 19 rfl) rfl hl.1 (Nat.le_of_ble_eq_true rfl) dX7_operand_8 ⟨Nat.zero_le _, Nat.zero_le _⟩ rfl ?_
  intro r_1 g_2 H locs h hw
  refine lv_istore_n (lv' := [(1, .int r_1), (0, .ref (ad 13))]) hx hb dX7_operand_11 rfl hl (by decide) rfl (fun ls hl => ?_)
  refine lv_aload_n hx hb dX7_operand_12 rfl (lv_at hl 1 rfl) ?_
  refine lv_dup hx hb dX7_operand_13 rfl ?_
  refine gt (v := .int (g_2 4 0 0)) kfX7_70 13 hC hw rfl rfl dX7_operand_14 ?_
  refine lv_iconst (v := (1 : Int32)) hx hb dX7_operand_17 (by decide) ?_
  refine lv_iadd hx hb dX7_operand_18 ?_
  refine pwT_13_8 kpX7_70 hC hw dX7_operand_19 (fun H locs g_3 eg_3 hw => ?_)
  have h := h g_3 eg_3
  refine lv_iload_n hx hb dX7_operand_22 rfl (lv_at hl 0 rfl) ?_
  exact rtI (wf := (fun u : SG => (wT ad cI cC cZ cJ N u))) g_3 hC hr hlk hw rfl h dX7_operand_23
def V_X7_countStep (N : Nat) (G : SG) (post : SG → Prop) : Prop := (((G 4 0 4) < (1000 : Int32) → ∀ g_2 : SG, g_2 = uo G 4 (us (G 4) 4 ((G 4 0 4) + (1 : Int32))) → post g_2) ∧ (¬ (G 4 0 4) < (1000 : Int32) → ∀ g_3 : SG, g_3 = uo G 4 (us (G 4) 2 (2 : Int32)) → post g_3))
abbrev RM_X7_countStep : Room := { frames := 0, cells := 0, slots := 0, locals := 0 }
set_option maxHeartbeats 4000000 in
set_option maxRecDepth 100000 in
theorem m_X7_countStep (l : Launch) (D : va_G) (cI cC cZ cJ : ClassId) (ad : Nat → Nat) (N : Nat) (ea : Nat → Nat → Nat) (G : SG) {post : SG → Prop} (h : V_X7_countStep N G post) : MetVE ea l yX7_countStep cX7_countStep 1 RM_X7_countStep D (ty4 cI cC cZ cJ) (wT ad cI cC cZ cJ N G) [.ref (ad 13)] (fun u : SG => (wT ad cI cC cZ cJ N u)) post := by
  refine mkVE (by decide) (Nat.le_of_ble_eq_true rfl) ?_
  intro p e s m args below meth c A ls hC hr hlk hw hE hl
  have hx := hC.1
  have hb := hC.2.1
  have hl : lv_has ls 1 [(0, .ref (ad 13))] := hl
  unfold V_X7_countStep at h
  refine lv_aload_n hx hb dX7_countStep_0 rfl (lv_at hl 0 rfl) ?_
  refine gt (v := .int (G 4 0 4)) kfX7_91 13 hC hw rfl rfl dX7_countStep_1 ?_
  refine lv_sipush (v := (1000 : Int32)) hx hb dX7_countStep_4 (by decide) ?_
  refine lv_icmp_lt (tgt := 18) hx hb dX7_countStep_7 (by decide) (fun c_1 => ?_) (fun c_1 => ?_)
  · have h := h.1 c_1
    refine lv_aload_n hx hb dX7_countStep_18 rfl (lv_at hl 0 rfl) ?_
    refine lv_dup hx hb dX7_countStep_19 rfl ?_
    refine gt (v := .int (G 4 0 4)) kfX7_91 13 hC hw rfl rfl dX7_countStep_20 ?_
    refine lv_iconst (v := (1 : Int32)) hx hb dX7_countStep_23 (by decide) ?_
    refine lv_iadd hx hb dX7_countStep_24 ?_
    refine pwT_13_12 kpX7_91 hC hw dX7_countStep_25 (fun H locs g_2 eg_2 hw => ?_)
    have h := h g_2 eg_2
    exact rtV (wf := (fun u : SG => (wT ad cI cC cZ cJ N u))) g_2 hC hr hlk hw h dX7_countStep_28
  · have h := h.2 c_1
    refine lv_aload_n hx hb dX7_countStep_10 rfl (lv_at hl 0 rfl) ?_
    refine lv_iconst (v := (2 : Int32)) hx hb dX7_countStep_11 (by decide) ?_
    refine pwT_13_10 kpX7_67 hC hw dX7_countStep_12 (fun H locs g_3 eg_3 hw => ?_)
    have h := h g_3 eg_3
    refine lv_goto (tgt := 28) hx hb dX7_countStep_15 (by decide) ?_
    exact rtV (wf := (fun u : SG => (wT ad cI cC cZ cJ N u))) g_3 hC hr hlk hw h dX7_countStep_28
def V_X7_pushOwn (N : Nat) (x1 : Int32) (G : SG) (post : SG → Prop) : Prop := V_X9_word x1 (G 1) (fun r_1 u_3 => ∀ g_2 : SG, g_2 = uo G 1 u_3 → ((¬ r_1 = 0 → V_X8_push 1550 r_1 (g_2 9) (fun u_7 => ∀ g_6 : SG, g_6 = uo g_2 9 u_7 → post g_6)) ∧ (r_1 = 0 → ∀ g_8 : SG, g_8 = uo g_2 4 (us (g_2 4) 2 (3 : Int32)) → post g_8)))
abbrev RM_X7_pushOwn : Room := { frames := 2, cells := 0, slots := 0, locals := 42 }
set_option maxHeartbeats 4000000 in
set_option maxRecDepth 100000 in
theorem m_X7_pushOwn (l : Launch) (D : va_G) (cI cC cZ cJ : ClassId) (ad : Nat → Nat) (N : Nat) (ea : Nat → Nat → Nat) (x1 : Int32) (G : SG) {post : SG → Prop} (h : V_X7_pushOwn N x1 G post) : MetVE ea l yX7_pushOwn cX7_pushOwn 3 RM_X7_pushOwn D (ty4 cI cC cZ cJ) (wT ad cI cC cZ cJ N G) [.ref (ad 13), .int x1] (fun u : SG => (wT ad cI cC cZ cJ N u)) post := by
  refine mkVE (by decide) (Nat.le_of_ble_eq_true rfl) ?_
  intro p e s m args below meth c A ls hC hr hlk hw hE hl
  have hx := hC.1
  have hb := hC.2.1
  have hl : lv_has ls 3 [(0, .ref (ad 13)), (1, .int x1)] := hl
  unfold V_X7_pushOwn at h
  refine lv_aload_n hx hb dX7_pushOwn_0 rfl (lv_at hl 0 rfl) ?_
  refine gt (v := .ref (ad 1)) kfX7_30 13 hC hw rfl rfl dX7_pushOwn_1 ?_
  refine lv_iload_n hx hb dX7_pushOwn_4 rfl (lv_at hl 1 rfl) ?_
  refine eI_wT_wSy_1 kmX7_194 hC hw (m_X9_word l D cI cC cZ cJ (fun j => ad (1 + j)) x1 (G 1) h) rfl rfl ⟨by decide, by decide⟩ rfl hl.1 (Nat.le_of_ble_eq_true rfl) dX7_pushOwn_5 ⟨Nat.zero_le _, Nat.zero_le _⟩ rfl ?_
  intro r_1 u_3 g_2 H locs eg_2 h hw
  have h := h g_2 eg_2
  refine lv_istore_n (lv' := [(2, .int r_1), (0, .ref (ad 13)), (1, .int x1)]) hx hb dX7_pushOwn_8 rfl hl (by decide) rfl (fun ls hl => ?_)
  refine lv_iload_n hx hb dX7_pushOwn_9 rfl (lv_at hl 0 rfl) ?_
  refine lv_if_ne (tgt := 21) hx hb dX7_pushOwn_10 (by decide) (fun c_4 => ?_) (fun c_4 => ?_)
  · have h := h.1 c_4
    refine lv_aload_n hx hb dX7_pushOwn_21 rfl (lv_at hl 1 rfl) ?_
    refine gt (v := .ref (ad 23)) kfX7_16 13 hC hw rfl rfl dX7_pushOwn_22 ?_
    refine lv_iload_n hx hb dX7_pushOwn_25 rfl (lv_at hl 0 rfl) ?_
    refine eV_wT_wSt_23 kmX7_143 hC hw (m_X8_push l D cI cC cZ cJ (fun j => ad (23 + j)) 1550 r_1 (g_2 9) h) rfl rfl ⟨by decide, by decide⟩ rfl hl.1 (Nat.le_of_ble_eq_true rfl) dX7_pushOwn_26 ⟨Nat.zero_le _, Nat.zero_le _⟩ rfl ?_
    intro u_7 g_6 H locs eg_6 h hw
    have h := h g_6 eg_6
    exact rtV (wf := (fun u : SG => (wT ad cI cC cZ cJ N u))) g_6 hC hr hlk hw h dX7_pushOwn_29
  · have h := h.2 c_4
    refine lv_aload_n hx hb dX7_pushOwn_13 rfl (lv_at hl 1 rfl) ?_
    refine lv_iconst (v := (3 : Int32)) hx hb dX7_pushOwn_14 (by decide) ?_
    refine pwT_13_10 kpX7_67 hC hw dX7_pushOwn_15 (fun H locs g_8 eg_8 hw => ?_)
    have h := h g_8 eg_8
    refine lv_goto (tgt := 29) hx hb dX7_pushOwn_18 (by decide) ?_
    exact rtV (wf := (fun u : SG => (wT ad cI cC cZ cJ N u))) g_8 hC hr hlk hw h dX7_pushOwn_29
def V_X7_frameHere (N : Nat) (G : SG) (post : Int32 → SG → Prop) : Prop := V_X8_peek 60 (1 : Int32) (G 10) (fun r_1 u_3 => ∀ g_2 : SG, g_2 = uo G 10 u_3 → post r_1 g_2)
abbrev RM_X7_frameHere : Room := { frames := 2, cells := 0, slots := 0, locals := 42 }
set_option maxHeartbeats 4000000 in
set_option maxRecDepth 100000 in
theorem m_X7_frameHere (l : Launch) (D : va_G) (cI cC cZ cJ : ClassId) (ad : Nat → Nat) (N : Nat) (ea : Nat → Nat → Nat) (G : SG) {post : Int32 → SG → Prop} (h : V_X7_frameHere N G post) : MetIE ea l yX7_frameHere cX7_frameHere 1 .int RM_X7_frameHere D (ty4 cI cC cZ cJ) (wT ad cI cC cZ cJ N G) [.ref (ad 13)] (fun u : SG => (wT ad cI cC cZ cJ N u)) post := by
  refine mkIE (by decide) (Nat.le_of_ble_eq_true rfl) ?_
  intro p e s m args below meth c A ls hC hr hlk hw hE hl
  have hx := hC.1
  have hb := hC.2.1
  have hl : lv_has ls 1 [(0, .ref (ad 13))] := hl
  unfold V_X7_frameHere at h
  refine lv_aload_n hx hb dX7_frameHere_0 rfl (lv_at hl 0 rfl) ?_
  refine gt (v := .ref (ad 25)) kfX7_20 13 hC hw rfl rfl dX7_frameHere_1 ?_
  refine lv_iconst (v := (1 : Int32)) hx hb dX7_frameHere_4 (by decide) ?_
  refine eI_wT_wSt_25 kmX7_99 hC hw (m_X8_peek l D cI cC cZ cJ (fun j => ad (25 + j)) 60 (1 : Int32) (G 10) h) rfl rfl ⟨by decide, by decide⟩ rfl hl.1 (Nat.le_of_ble_eq_true rfl) dX7_frameHere_5 ⟨Nat.zero_le _, Nat.zero_le _⟩ rfl ?_
  intro r_1 u_3 g_2 H locs eg_2 h hw
  have h := h g_2 eg_2
  exact rtI (wf := (fun u : SG => (wT ad cI cC cZ cJ N u))) g_2 hC hr hlk hw rfl h dX7_frameHere_8
def V_X7_addressOf_9 (N : Nat) (post : Int32 → SG → Prop) : Nat → Int32 → Int32 → Int32 → SG → Prop
  | 0, _, _, _, _ => False
  | n + 1, x1, x2, x3, G => ((x3 ≤ 0 → V_X10_held x2 (fun r_2 => post ((r_2 + (2 : Int32)) + (x1 - x1 / (4 : Int32) * (4 : Int32))) G)) ∧ (¬ x3 ≤ 0 → V_X10_held x2 (fun r_3 => V_X2_at N r_3 (G 2) (fun r_4 u_6 => ∀ g_5 : SG, g_5 = uo G 2 u_6 → ∀ x_7 : Int32, x_7 = x3 + (-1 : Int32) → V_X7_addressOf_9 N post n x1 r_4 x_7 g_5))))
def V_X7_addressOf (N : Nat) (n : Nat) (x1 : Int32) (G : SG) (post : Int32 → SG → Prop) : Prop := V_X7_frameHere N  G (fun r_8 g_9 => ∀ x_10 : Int32, x_10 = (x1 / (4 : Int32)) → V_X7_addressOf_9 N post n x1 r_8 x_10 g_9)
abbrev RM_X7_addressOf : Room := { frames := 3, cells := 0, slots := 0, locals := 62 }
set_option maxHeartbeats 4000000 in
set_option maxRecDepth 100000 in
theorem m_X7_addressOf (l : Launch) (D : va_G) (cI cC cZ cJ : ClassId) (ad : Nat → Nat) (N : Nat) (ea : Nat → Nat → Nat) (n : Nat) (x1 : Int32) (G : SG) {post : Int32 → SG → Prop} (h : V_X7_addressOf N n x1 G post) : MetIE ea l yX7_addressOf cX7_addressOf 4 .int RM_X7_addressOf D (ty4 cI cC cZ cJ) (wT ad cI cC cZ cJ N G) [.ref (ad 13), .int x1] (fun u : SG => (wT ad cI cC cZ cJ N u)) post := by
  refine mkIE (by decide) (Nat.le_of_ble_eq_true rfl) ?_
  intro p e s m args below meth c A ls hC hr hlk hw hE hl
  have hx := hC.1
  have hb := hC.2.1
  have hl : lv_has ls 4 [(0, .ref (ad 13)), (1, .int x1)] := hl
  have w_9 : ∀ (n : Nat) (x1 : Int32) (x2 : Int32) (x3 : Int32) (G : SG) (H : Heap) (locs : List Loc) (ls : Array Slot), V_X7_addressOf_9 N post n x1 x2 x3 G → Wd D (ty4 cI cC cZ cJ) A s (wT ad cI cC cZ cJ N G) H locs → lv_has ls 4 [(0, .ref (ad 13)), (1, .int x1), (2, .int x2), (3, .int x3)] → W p l e RM_X7_addressOf s m args below meth c H locs 0 0 (QI below D (ty4 cI cC cZ cJ) A args s (fun u : SG => (wT ad cI cC cZ cJ N u)) post) (F0 m 9 ls []) := by
    intro n
    induction n with
    | zero =>
      intro x1 x2 x3 G H locs ls h
      exact False.elim h
    | succ n ih =>
      intro x1 x2 x3 G H locs ls h hw hl
      rw [V_X7_addressOf_9] at h
      refine lv_iload_n hx hb dX7_addressOf_9 rfl (lv_at hl 3 rfl) ?_
      refine lv_if_le (tgt := 31) hx hb dX7_addressOf_10 (by decide) (fun c_1 => ?_) (fun c_1 => ?_)
      · have h := h.1 c_1
        refine lv_iload_n hx hb dX7_addressOf_31 rfl (lv_at hl 2 rfl) ?_
        refine cSI ksX7_183 hC (m_X10_held l x2 h) rfl rfl ⟨by decide, by decide⟩ rfl hl.1 (Nat.le_of_ble_eq_true rfl) dX7_addressOf_32 ⟨Nat.zero_le _, Nat.zero_le _⟩ rfl ?_
        intro r_2 h
        refine lv_iconst (v := (2 : Int32)) hx hb dX7_addressOf_35 (by decide) ?_
        refine lv_iadd hx hb dX7_addressOf_36 ?_
        refine lv_iload_n hx hb dX7_addressOf_37 rfl (lv_at hl 1 rfl) ?_
        refine lv_iconst (v := (4 : Int32)) hx hb dX7_addressOf_38 (by decide) ?_
        refine lv_irem hx hb dX7_addressOf_39 (by decide) ?_
        refine lv_iadd hx hb dX7_addressOf_40 ?_
        exact rtI (wf := (fun u : SG => (wT ad cI cC cZ cJ N u))) G hC hr hlk hw rfl h dX7_addressOf_41
      · have h := h.2 c_1
        refine lv_aload_n hx hb dX7_addressOf_13 rfl (lv_at hl 0 rfl) ?_
        refine gt (v := .ref (ad 6)) kfX7_26 13 hC hw rfl rfl dX7_addressOf_14 ?_
        refine lv_iload_n hx hb dX7_addressOf_17 rfl (lv_at hl 2 rfl) ?_
        refine cSI ksX7_183 hC (m_X10_held l x2 h) rfl rfl ⟨by decide, by decide⟩ rfl hl.1 (Nat.le_of_ble_eq_true rfl) dX7_addressOf_18 ⟨Nat.zero_le _, Nat.zero_le _⟩ rfl ?_
        intro r_3 h
        refine eI_wT_wHp_6 kmX7_152 hC hw (m_X2_at l D cI cC cZ cJ (fun j => ad (6 + j)) N r_3 (G 2) h) rfl rfl ⟨by decide, by decide⟩ rfl hl.1 (Nat.le_of_ble_eq_true rfl) dX7_addressOf_21 ⟨Nat.zero_le _, Nat.zero_le _⟩ rfl ?_
        intro r_4 u_6 g_5 H locs eg_5 h hw
        have h := h g_5 eg_5
        refine lv_istore_n (lv' := [(2, .int r_4), (0, .ref (ad 13)), (1, .int x1), (3, .int x3)]) hx hb dX7_addressOf_24 rfl hl (by decide) rfl (fun ls hl => ?_)
        obtain ⟨x_7, ex_7⟩ : ∃ y : Int32, y = x3 + (-1 : Int32) := ⟨_, rfl⟩
        have h := h x_7 ex_7
        refine lv_iinc (v := x_7) (lv' := [(3, .int x_7), (2, .int r_4), (0, .ref (ad 13)), (1, .int x1)]) hx hb dX7_addressOf_25 hl (k := 3) rfl (by rw [ex_7]; rfl) (by decide) rfl (fun ls hl => ?_)
        refine lv_goto (tgt := 9) hx hb dX7_addressOf_28 (by decide) ?_
        exact ih x1 r_4 x_7 g_5 _ _ _ h hw (lv_sub hl [2, 3, 1, 0] rfl)
  unfold V_X7_addressOf at h
  refine lv_aload_n hx hb dX7_addressOf_0 rfl (lv_at hl 0 rfl) ?_
  refine cVIwe kmX7_197 hC hw hE (m_X7_frameHere l D cI cC cZ cJ ad N ea  G h) rfl rfl ⟨by decide, by decide⟩ (recvW hw rfl 13 rfl) rfl hl.1 (Nat.le_of_ble_eq_true rfl) dX7_addressOf_1 ⟨Nat.zero_le _, Nat.zero_le _⟩ rfl ?_
  intro r_8 g_9 H locs h hw
  refine lv_istore_n (lv' := [(2, .int r_8), (0, .ref (ad 13)), (1, .int x1)]) hx hb dX7_addressOf_4 rfl hl (by decide) rfl (fun ls hl => ?_)
  refine lv_iload_n hx hb dX7_addressOf_5 rfl (lv_at hl 2 rfl) ?_
  refine lv_iconst (v := (4 : Int32)) hx hb dX7_addressOf_6 (by decide) ?_
  refine lv_idiv hx hb dX7_addressOf_7 (by decide) ?_
  refine lv_topi (fun x_10 ex_10 => ?_)
  have h := h x_10 ex_10
  refine lv_istore_n (lv' := [(3, .int x_10), (2, .int r_8), (0, .ref (ad 13)), (1, .int x1)]) hx hb dX7_addressOf_8 rfl hl (by decide) rfl (fun ls hl => ?_)
  exact w_9 n x1 r_8 x_10 g_9 _ _ _ h hw (lv_sub hl [2, 3, 1, 0] rfl)
def V_X7_jumpIfNil (N : Nat) (x1 : Int32) (G : SG) (post : SG → Prop) : Prop := V_X8_pop 1550  (G 9) (fun r_1 u_3 => ∀ g_2 : SG, g_2 = uo G 9 u_3 → ((¬ r_1 = (1 : Int32) → post g_2) ∧ (r_1 = (1 : Int32) → ∀ g_5 : SG, g_5 = uo g_2 4 (us (g_2 4) 0 x1) → post g_5)))
abbrev RM_X7_jumpIfNil : Room := { frames := 3, cells := 0, slots := 0, locals := 63 }
set_option maxHeartbeats 4000000 in
set_option maxRecDepth 100000 in
theorem m_X7_jumpIfNil (l : Launch) (D : va_G) (cI cC cZ cJ : ClassId) (ad : Nat → Nat) (N : Nat) (ea : Nat → Nat → Nat) (x1 : Int32) (G : SG) {post : SG → Prop} (h : V_X7_jumpIfNil N x1 G post) : MetVE ea l yX7_jumpIfNil cX7_jumpIfNil 2 RM_X7_jumpIfNil D (ty4 cI cC cZ cJ) (wT ad cI cC cZ cJ N G) [.ref (ad 13), .int x1] (fun u : SG => (wT ad cI cC cZ cJ N u)) post := by
  refine mkVE (by decide) (Nat.le_of_ble_eq_true rfl) ?_
  intro p e s m args below meth c A ls hC hr hlk hw hE hl
  have hx := hC.1
  have hb := hC.2.1
  have hl : lv_has ls 2 [(0, .ref (ad 13)), (1, .int x1)] := hl
  unfold V_X7_jumpIfNil at h
  refine lv_aload_n hx hb dX7_jumpIfNil_0 rfl (lv_at hl 0 rfl) ?_
  refine gt (v := .ref (ad 23)) kfX7_16 13 hC hw rfl rfl dX7_jumpIfNil_1 ?_
  refine eI_wT_wSt_23 kmX7_156 hC hw (m_X8_pop l D cI cC cZ cJ (fun j => ad (23 + j)) 1550  (G 9) h) rfl rfl ⟨by decide, by decide⟩ rfl hl.1 (Nat.le_of_ble_eq_true rfl) dX7_jumpIfNil_4 ⟨Nat.zero_le _, Nat.zero_le _⟩ rfl ?_
  intro r_1 u_3 g_2 H locs eg_2 h hw
  have h := h g_2 eg_2
  refine lv_iconst (v := (1 : Int32)) hx hb dX7_jumpIfNil_7 (by decide) ?_
  refine lv_icmp_ne (tgt := 16) hx hb dX7_jumpIfNil_8 (by decide) (fun c_4 => ?_) (fun c_4 => ?_)
  · have h := h.1 c_4
    exact rtV (wf := (fun u : SG => (wT ad cI cC cZ cJ N u))) g_2 hC hr hlk hw h dX7_jumpIfNil_16
  · have h := h.2 c_4
    refine lv_aload_n hx hb dX7_jumpIfNil_11 rfl (lv_at hl 0 rfl) ?_
    refine lv_iload_n hx hb dX7_jumpIfNil_12 rfl (lv_at hl 1 rfl) ?_
    refine pwT_13_8 kpX7_70 hC hw dX7_jumpIfNil_13 (fun H locs g_5 eg_5 hw => ?_)
    have h := h g_5 eg_5
    exact rtV (wf := (fun u : SG => (wT ad cI cC cZ cJ N u))) g_5 hC hr hlk hw h dX7_jumpIfNil_16
def V_X7_failing (N : Nat) (x1 : Int32) (G : SG) (post : Int32 → SG → Prop) : Prop := ∀ g_1 : SG, g_1 = uo G 4 (us (G 4) 2 x1) → post (1 : Int32) g_1
abbrev RM_X7_failing : Room := { frames := 0, cells := 0, slots := 0, locals := 0 }
set_option maxHeartbeats 4000000 in
set_option maxRecDepth 100000 in
theorem m_X7_failing (l : Launch) (D : va_G) (cI cC cZ cJ : ClassId) (ad : Nat → Nat) (N : Nat) (ea : Nat → Nat → Nat) (x1 : Int32) (G : SG) {post : Int32 → SG → Prop} (h : V_X7_failing N x1 G post) : MetIE ea l yX7_failing cX7_failing 2 .int RM_X7_failing D (ty4 cI cC cZ cJ) (wT ad cI cC cZ cJ N G) [.ref (ad 13), .int x1] (fun u : SG => (wT ad cI cC cZ cJ N u)) post := by
  refine mkIE (by decide) (Nat.le_of_ble_eq_true rfl) ?_
  intro p e s m args below meth c A ls hC hr hlk hw hE hl
  have hx := hC.1
  have hb := hC.2.1
  have hl : lv_has ls 2 [(0, .ref (ad 13)), (1, .int x1)] := hl
  unfold V_X7_failing at h
  refine lv_aload_n hx hb dX7_failing_0 rfl (lv_at hl 0 rfl) ?_
  refine lv_iload_n hx hb dX7_failing_1 rfl (lv_at hl 1 rfl) ?_
  refine pwT_13_10 kpX7_67 hC hw dX7_failing_2 (fun H locs g_1 eg_1 hw => ?_)
  have h := h g_1 eg_1
  refine lv_iconst (v := (1 : Int32)) hx hb dX7_failing_5 (by decide) ?_
  exact rtI (wf := (fun u : SG => (wT ad cI cC cZ cJ N u))) g_1 hC hr hlk hw rfl h dX7_failing_6
def V_X7_partOf (N : Nat) (x1 : Int32) (x2 : Int32) (G : SG) (post : Int32 → SG → Prop) : Prop := V_X10_tag x1 (fun r_1 => ((r_1 = (1 : Int32) → post (1 : Int32) G) ∧ (r_1 = (4 : Int32) → V_X10_held x1 (fun r_3 => V_X2_at N (r_3 + x2) (G 2) (fun r_4 u_6 => ∀ g_5 : SG, g_5 = uo G 2 u_6 → post r_4 g_5))) ∧ (¬ r_1 = (1 : Int32) → ¬ r_1 = (4 : Int32) → V_X7_failing N (4 : Int32) G (fun r_7 g_8 => post r_7 g_8))))
abbrev RM_X7_partOf : Room := { frames := 1, cells := 0, slots := 0, locals := 21 }
set_option maxHeartbeats 4000000 in
set_option maxRecDepth 100000 in
theorem m_X7_partOf (l : Launch) (D : va_G) (cI cC cZ cJ : ClassId) (ad : Nat → Nat) (N : Nat) (ea : Nat → Nat → Nat) (x1 : Int32) (x2 : Int32) (G : SG) {post : Int32 → SG → Prop} (h : V_X7_partOf N x1 x2 G post) : MetIE ea l yX7_partOf cX7_partOf 3 .int RM_X7_partOf D (ty4 cI cC cZ cJ) (wT ad cI cC cZ cJ N G) [.ref (ad 13), .int x1, .int x2] (fun u : SG => (wT ad cI cC cZ cJ N u)) post := by
  refine mkIE (by decide) (Nat.le_of_ble_eq_true rfl) ?_
  intro p e s m args below meth c A ls hC hr hlk hw hE hl
  have hx := hC.1
  have hb := hC.2.1
  have hl : lv_has ls 3 [(0, .ref (ad 13)), (1, .int x1), (2, .int x2)] := hl
  unfold V_X7_partOf at h
  refine lv_iload_n hx hb dX7_partOf_0 rfl (lv_at hl 1 rfl) ?_
  refine cSI ksX7_210 hC (m_X10_tag l x1 h) rfl rfl ⟨by decide, by decide⟩ rfl hl.1 (Nat.le_of_ble_eq_true rfl) dX7_partOf_1 ⟨Nat.zero_le _, Nat.zero_le _⟩ rfl ?_
  intro r_1 h
  by_cases c_2_1 : r_1 = (1 : Int32)
  · refine lv_lookup (off := 28) (tgt := 32) hx hb dX7_partOf_4 (by decide) (by rw [c_2_1]; decide) (by decide) ?_
    have h := h.1 c_2_1
    refine lv_iconst (v := (1 : Int32)) hx hb dX7_partOf_32 (by decide) ?_
    exact rtI (wf := (fun u : SG => (wT ad cI cC cZ cJ N u))) G hC hr hlk hw rfl h dX7_partOf_33
  have h := h.2
  by_cases c_2_4 : r_1 = (4 : Int32)
  · refine lv_lookup (off := 30) (tgt := 34) hx hb dX7_partOf_4 (by decide) (by rw [c_2_4]; decide) (by decide) ?_
    have h := h.1 c_2_4
    refine lv_aload_n hx hb dX7_partOf_34 rfl (lv_at hl 0 rfl) ?_
    refine gt (v := .ref (ad 6)) kfX7_26 13 hC hw rfl rfl dX7_partOf_35 ?_
    refine lv_iload_n hx hb dX7_partOf_38 rfl (lv_at hl 1 rfl) ?_
    refine cSI ksX7_183 hC (m_X10_held l x1 h) rfl rfl ⟨by decide, by decide⟩ rfl hl.1 (Nat.le_of_ble_eq_true rfl) dX7_partOf_39 ⟨Nat.zero_le _, Nat.zero_le _⟩ rfl ?_
    intro r_3 h
    refine lv_iload_n hx hb dX7_partOf_42 rfl (lv_at hl 2 rfl) ?_
    refine lv_iadd hx hb dX7_partOf_43 ?_
    refine eI_wT_wHp_6 kmX7_152 hC hw (m_X2_at l D cI cC cZ cJ (fun j => ad (6 + j)) N (r_3 + x2) (G 2) h) rfl rfl ⟨by decide, by decide⟩ rfl hl.1 (Nat.le_of_ble_eq_true rfl) dX7_partOf_44 ⟨Nat.zero_le _, Nat.zero_le _⟩ rfl ?_
    intro r_4 u_6 g_5 H locs eg_5 h hw
    have h := h g_5 eg_5
    exact rtI (wf := (fun u : SG => (wT ad cI cC cZ cJ N u))) g_5 hC hr hlk hw rfl h dX7_partOf_47
  have h := h.2
  refine lv_lookup (off := 44) (tgt := 48) hx hb dX7_partOf_4 (by decide) (by refine (lv_osw c_2_1 (by decide)).trans ?_; refine (lv_osw c_2_4 (by decide)).trans ?_; rfl) (by decide) ?_
  have h := h c_2_1 c_2_4
  refine lv_aload_n hx hb dX7_partOf_48 rfl (lv_at hl 0 rfl) ?_
  refine lv_iconst (v := (4 : Int32)) hx hb dX7_partOf_49 (by decide) ?_
  refine cVIwe kmX7_271 hC hw hE (m_X7_failing l D cI cC cZ cJ ad N ea (4 : Int32) G h) rfl rfl ⟨by decide, by decide⟩ (recvW hw rfl 13 rfl) rfl hl.1 (Nat.le_of_ble_eq_true rfl) dX7_partOf_50 ⟨Nat.zero_le _, Nat.zero_le _⟩ rfl ?_
  intro r_7 g_8 H locs h hw
  exact rtI (wf := (fun u : SG => (wT ad cI cC cZ cJ N u))) g_8 hC hr hlk hw rfl h dX7_partOf_53
def V_X7_isRoomFor (N : Nat) (x1 : Int32) (G : SG) (post : Int32 → SG → Prop) : Prop := V_X2_hasRoom N x1 (G 2) (fun r_1 u_3 => ∀ g_2 : SG, g_2 = uo G 2 u_3 → ((r_1 = 0 → ∀ g_5 : SG, g_5 = uo g_2 4 (us (g_2 4) 3 x1) → post (0 : Int32) g_5) ∧ (¬ r_1 = 0 → post (1 : Int32) g_2)))
abbrev RM_X7_isRoomFor : Room := { frames := 1, cells := 0, slots := 0, locals := 21 }
set_option maxHeartbeats 4000000 in
set_option maxRecDepth 100000 in
theorem m_X7_isRoomFor (l : Launch) (D : va_G) (cI cC cZ cJ : ClassId) (ad : Nat → Nat) (N : Nat) (ea : Nat → Nat → Nat) (x1 : Int32) (G : SG) {post : Int32 → SG → Prop} (h : V_X7_isRoomFor N x1 G post) : MetIE ea l yX7_isRoomFor cX7_isRoomFor 2 .boolean RM_X7_isRoomFor D (ty4 cI cC cZ cJ) (wT ad cI cC cZ cJ N G) [.ref (ad 13), .int x1] (fun u : SG => (wT ad cI cC cZ cJ N u)) post := by
  refine mkIE (by decide) (Nat.le_of_ble_eq_true rfl) ?_
  intro p e s m args below meth c A ls hC hr hlk hw hE hl
  have hx := hC.1
  have hb := hC.2.1
  have hl : lv_has ls 2 [(0, .ref (ad 13)), (1, .int x1)] := hl
  unfold V_X7_isRoomFor at h
  refine lv_aload_n hx hb dX7_isRoomFor_0 rfl (lv_at hl 0 rfl) ?_
  refine gt (v := .ref (ad 6)) kfX7_26 13 hC hw rfl rfl dX7_isRoomFor_1 ?_
  refine lv_iload_n hx hb dX7_isRoomFor_4 rfl (lv_at hl 1 rfl) ?_
  refine eI_wT_wHp_6 kmX7_82 hC hw (m_X2_hasRoom l D cI cC cZ cJ (fun j => ad (6 + j)) N x1 (G 2) h) rfl rfl ⟨by decide, by decide⟩ rfl hl.1 (Nat.le_of_ble_eq_true rfl) dX7_isRoomFor_5 ⟨Nat.zero_le _, Nat.zero_le _⟩ rfl ?_
  intro r_1 u_3 g_2 H locs eg_2 h hw
  have h := h g_2 eg_2
  refine lv_if_eq (tgt := 13) hx hb dX7_isRoomFor_8 (by decide) (fun c_4 => ?_) (fun c_4 => ?_)
  · have h := h.1 c_4
    refine lv_aload_n hx hb dX7_isRoomFor_13 rfl (lv_at hl 0 rfl) ?_
    refine lv_iload_n hx hb dX7_isRoomFor_14 rfl (lv_at hl 1 rfl) ?_
    refine pwT_13_11 kpX7_73 hC hw dX7_isRoomFor_15 (fun H locs g_5 eg_5 hw => ?_)
    have h := h g_5 eg_5
    refine lv_iconst (v := (0 : Int32)) hx hb dX7_isRoomFor_18 (by decide) ?_
    exact rtI (wf := (fun u : SG => (wT ad cI cC cZ cJ N u))) g_5 hC hr hlk hw (by decide) h dX7_isRoomFor_19
  · have h := h.2 c_4
    refine lv_iconst (v := (1 : Int32)) hx hb dX7_isRoomFor_11 (by decide) ?_
    exact rtI (wf := (fun u : SG => (wT ad cI cC cZ cJ N u))) g_2 hC hr hlk hw (by decide) h dX7_isRoomFor_12
def V_X7_newCell (N : Nat) (x1 : Int32) (x2 : Int32) (G : SG) (post : Int32 → SG → Prop) : Prop := V_X7_isRoomFor N (2 : Int32) G (fun r_1 g_2 => ((¬ r_1 = 0 → V_X2_make N (2 : Int32) (g_2 2) (fun r_4 u_6 => ∀ g_5 : SG, g_5 = uo g_2 2 u_6 → V_X2_put N r_4 x1 (g_5 2) (fun u_9 => ∀ g_8 : SG, g_8 = uo g_5 2 u_9 → V_X2_put N (r_4 + (1 : Int32)) x2 (g_8 2) (fun u_12 => ∀ g_11 : SG, g_11 = uo g_8 2 u_12 → V_X10_of (4 : Int32) r_4 (fun r_13 => post r_13 g_11))))) ∧ (r_1 = 0 → post (1 : Int32) g_2)))
abbrev RM_X7_newCell : Room := { frames := 2, cells := 0, slots := 0, locals := 42 }
set_option maxHeartbeats 4000000 in
set_option maxRecDepth 100000 in
theorem m_X7_newCell (l : Launch) (D : va_G) (cI cC cZ cJ : ClassId) (ad : Nat → Nat) (N : Nat) (ea : Nat → Nat → Nat) (x1 : Int32) (x2 : Int32) (G : SG) {post : Int32 → SG → Prop} (h : V_X7_newCell N x1 x2 G post) : MetIE ea l yX7_newCell cX7_newCell 4 .int RM_X7_newCell D (ty4 cI cC cZ cJ) (wT ad cI cC cZ cJ N G) [.ref (ad 13), .int x1, .int x2] (fun u : SG => (wT ad cI cC cZ cJ N u)) post := by
  refine mkIE (by decide) (Nat.le_of_ble_eq_true rfl) ?_
  intro p e s m args below meth c A ls hC hr hlk hw hE hl
  have hx := hC.1
  have hb := hC.2.1
  have hl : lv_has ls 4 [(0, .ref (ad 13)), (1, .int x1), (2, .int x2)] := hl
  unfold V_X7_newCell at h
  refine lv_aload_n hx hb dX7_newCell_0 rfl (lv_at hl 0 rfl) ?_
  refine lv_iconst (v := (2 : Int32)) hx hb dX7_newCell_1 (by decide) ?_
  refine cVIwe kmX7_200 hC hw hE (m_X7_isRoomFor l D cI cC cZ cJ ad N ea (2 : Int32) G h) rfl rfl ⟨by decide, by decide⟩ (recvW hw rfl 13 rfl) rfl hl.1 (Nat.le_of_ble_eq_true rfl) dX7_newCell_2 ⟨Nat.zero_le _, Nat.zero_le _⟩ rfl ?_
  intro r_1 g_2 H locs h hw
  refine lv_if_ne (tgt := 10) hx hb dX7_newCell_5 (by decide) (fun c_3 => ?_) (fun c_3 => ?_)
  · have h := h.1 c_3
    refine lv_aload_n hx hb dX7_newCell_10 rfl (lv_at hl 0 rfl) ?_
    refine gt (v := .ref (ad 6)) kfX7_26 13 hC hw rfl rfl dX7_newCell_11 ?_
    refine lv_iconst (v := (2 : Int32)) hx hb dX7_newCell_14 (by decide) ?_
    refine eI_wT_wHp_6 kmX7_203 hC hw (m_X2_make l D cI cC cZ cJ (fun j => ad (6 + j)) N (2 : Int32) (g_2 2) h) rfl rfl ⟨by decide, by decide⟩ rfl hl.1 (Nat.le_of_ble_eq_true rfl) dX7_newCell_15 ⟨Nat.zero_le _, Nat.zero_le _⟩ rfl ?_
    intro r_4 u_6 g_5 H locs eg_5 h hw
    have h := h g_5 eg_5
    refine lv_istore_n (lv' := [(3, .int r_4), (0, .ref (ad 13)), (1, .int x1), (2, .int x2)]) hx hb dX7_newCell_18 rfl hl (by decide) rfl (fun ls hl => ?_)
    refine lv_aload_n hx hb dX7_newCell_19 rfl (lv_at hl 1 rfl) ?_
    refine gt (v := .ref (ad 6)) kfX7_26 13 hC hw rfl rfl dX7_newCell_20 ?_
    refine lv_iload_n hx hb dX7_newCell_23 rfl (lv_at hl 0 rfl) ?_
    refine lv_iload_n hx hb dX7_newCell_24 rfl (lv_at hl 2 rfl) ?_
    refine eV_wT_wHp_6 kmX7_153 hC hw (m_X2_put l D cI cC cZ cJ (fun j => ad (6 + j)) N r_4 x1 (g_5 2) h) rfl rfl ⟨by decide, by decide⟩ rfl hl.1 (Nat.le_of_ble_eq_true rfl) dX7_newCell_25 ⟨Nat.zero_le _, Nat.zero_le _⟩ rfl ?_
    intro u_9 g_8 H locs eg_8 h hw
    have h := h g_8 eg_8
    refine lv_aload_n hx hb dX7_newCell_28 rfl (lv_at hl 1 rfl) ?_
    refine gt (v := .ref (ad 6)) kfX7_26 13 hC hw rfl rfl dX7_newCell_29 ?_
    refine lv_iload_n hx hb dX7_newCell_32 rfl (lv_at hl 0 rfl) ?_
    refine lv_iconst (v := (1 : Int32)) hx hb dX7_newCell_33 (by decide) ?_
    refine lv_iadd hx hb dX7_newCell_34 ?_
    refine lv_iload_n hx hb dX7_newCell_35 rfl (lv_at hl 3 rfl) ?_
    refine eV_wT_wHp_6 kmX7_153 hC hw (m_X2_put l D cI cC cZ cJ (fun j => ad (6 + j)) N (r_4 + (1 : Int32)) x2 (g_8 2) h) rfl rfl ⟨by decide, by decide⟩ rfl hl.1 (Nat.le_of_ble_eq_true rfl) dX7_newCell_36 ⟨Nat.zero_le _, Nat.zero_le _⟩ rfl ?_
    intro u_12 g_11 H locs eg_11 h hw
    have h := h g_11 eg_11
    refine lv_iconst (v := (4 : Int32)) hx hb dX7_newCell_39 (by decide) ?_
    refine lv_iload_n hx hb dX7_newCell_40 rfl (lv_at hl 0 rfl) ?_
    refine cSI ksX7_206 hC (m_X10_of l (4 : Int32) r_4 h) rfl rfl ⟨by decide, by decide⟩ rfl hl.1 (Nat.le_of_ble_eq_true rfl) dX7_newCell_41 ⟨Nat.zero_le _, Nat.zero_le _⟩ rfl ?_
    intro r_13 h
    exact rtI (wf := (fun u : SG => (wT ad cI cC cZ cJ N u))) g_11 hC hr hlk hw rfl h dX7_newCell_44
  · have h := h.2 c_3
    refine lv_iconst (v := (1 : Int32)) hx hb dX7_newCell_8 (by decide) ?_
    exact rtI (wf := (fun u : SG => (wT ad cI cC cZ cJ N u))) g_2 hC hr hlk hw rfl h dX7_newCell_9
def V_X7_newList_16 (N : Nat) (post : Int32 → SG → Prop) : Nat → Int32 → Int32 → Int32 → SG → Prop
  | 0, _, _, _, _ => False
  | n + 1, x1, x2, x3, G => ((x1 ≤ x3 → post x2 G) ∧ (¬ x1 ≤ x3 → V_X2_make N (2 : Int32) (G 2) (fun r_2 u_4 => ∀ g_3 : SG, g_3 = uo G 2 u_4 → V_X8_peek 1550 x3 (g_3 9) (fun r_5 u_7 => ∀ g_6 : SG, g_6 = uo g_3 9 u_7 → V_X2_put N r_2 r_5 (g_6 2) (fun u_10 => ∀ g_9 : SG, g_9 = uo g_6 2 u_10 → V_X2_put N (r_2 + (1 : Int32)) x2 (g_9 2) (fun u_13 => ∀ g_12 : SG, g_12 = uo g_9 2 u_13 → V_X10_of (4 : Int32) r_2 (fun r_14 => ∀ x_15 : Int32, x_15 = x3 + (1 : Int32) → V_X7_newList_16 N post n x1 r_14 x_15 g_12)))))))
def V_X7_newList (N : Nat) (n : Nat) (x1 : Int32) (G : SG) (post : Int32 → SG → Prop) : Prop := V_X7_isRoomFor N ((2 : Int32) * x1) G (fun r_16 g_17 => ((¬ r_16 = 0 → ∀ x_19 : Int32, x_19 = (1 : Int32) → ∀ x_20 : Int32, x_20 = (0 : Int32) → V_X7_newList_16 N post n x1 x_19 x_20 g_17) ∧ (r_16 = 0 → post (1 : Int32) g_17)))
abbrev RM_X7_newList : Room := { frames := 2, cells := 0, slots := 0, locals := 42 }
set_option maxHeartbeats 4000000 in
set_option maxRecDepth 100000 in
theorem m_X7_newList (l : Launch) (D : va_G) (cI cC cZ cJ : ClassId) (ad : Nat → Nat) (N : Nat) (ea : Nat → Nat → Nat) (n : Nat) (x1 : Int32) (G : SG) {post : Int32 → SG → Prop} (h : V_X7_newList N n x1 G post) : MetIE ea l yX7_newList cX7_newList 5 .int RM_X7_newList D (ty4 cI cC cZ cJ) (wT ad cI cC cZ cJ N G) [.ref (ad 13), .int x1] (fun u : SG => (wT ad cI cC cZ cJ N u)) post := by
  refine mkIE (by decide) (Nat.le_of_ble_eq_true rfl) ?_
  intro p e s m args below meth c A ls hC hr hlk hw hE hl
  have hx := hC.1
  have hb := hC.2.1
  have hl : lv_has ls 5 [(0, .ref (ad 13)), (1, .int x1)] := hl
  have w_16 : ∀ (n : Nat) (x1 : Int32) (x2 : Int32) (x3 : Int32) (G : SG) (H : Heap) (locs : List Loc) (ls : Array Slot), V_X7_newList_16 N post n x1 x2 x3 G → Wd D (ty4 cI cC cZ cJ) A s (wT ad cI cC cZ cJ N G) H locs → lv_has ls 5 [(0, .ref (ad 13)), (1, .int x1), (2, .int x2), (3, .int x3)] → W p l e RM_X7_newList s m args below meth c H locs 0 0 (QI below D (ty4 cI cC cZ cJ) A args s (fun u : SG => (wT ad cI cC cZ cJ N u)) post) (F0 m 16 ls []) := by
    intro n
    induction n with
    | zero =>
      intro x1 x2 x3 G H locs ls h
      exact False.elim h
    | succ n ih =>
      intro x1 x2 x3 G H locs ls h hw hl
      rw [V_X7_newList_16] at h
      refine lv_iload_n hx hb dX7_newList_16 rfl (lv_at hl 3 rfl) ?_
      refine lv_iload_n hx hb dX7_newList_17 rfl (lv_at hl 1 rfl) ?_
      refine lv_icmp_ge (tgt := 73) hx hb dX7_newList_18 (by decide) (fun c_1 => ?_) (fun c_1 => ?_)
      · have h := h.1 c_1
        refine lv_iload_n hx hb dX7_newList_73 rfl (lv_at hl 2 rfl) ?_
        exact rtI (wf := (fun u : SG => (wT ad cI cC cZ cJ N u))) G hC hr hlk hw rfl h dX7_newList_74
      · have h := h.2 c_1
        refine lv_aload_n hx hb dX7_newList_21 rfl (lv_at hl 0 rfl) ?_
        refine gt (v := .ref (ad 6)) kfX7_26 13 hC hw rfl rfl dX7_newList_22 ?_
        refine lv_iconst (v := (2 : Int32)) hx hb dX7_newList_25 (by decide) ?_
        refine eI_wT_wHp_6 kmX7_203 hC hw (m_X2_make l D cI cC cZ cJ (fun j => ad (6 + j)) N (2 : Int32) (G 2) h) rfl rfl ⟨by decide, by decide⟩ rfl hl.1 (Nat.le_of_ble_eq_true rfl) dX7_newList_26 ⟨Nat.zero_le _, Nat.zero_le _⟩ rfl ?_
        intro r_2 u_4 g_3 H locs eg_3 h hw
        have h := h g_3 eg_3
        refine lv_istore (lv' := [(4, .int r_2), (0, .ref (ad 13)), (1, .int x1), (2, .int x2), (3, .int x3)]) hx hb dX7_newList_29 hl (by decide) rfl (fun ls hl => ?_)
        refine lv_aload_n hx hb dX7_newList_31 rfl (lv_at hl 1 rfl) ?_
        refine gt (v := .ref (ad 6)) kfX7_26 13 hC hw rfl rfl dX7_newList_32 ?_
        refine lv_iload hx hb dX7_newList_35 (lv_at hl 0 rfl) ?_
        refine lv_aload_n hx hb dX7_newList_37 rfl (lv_at hl 1 rfl) ?_
        refine gt (v := .ref (ad 23)) kfX7_16 13 hC hw rfl rfl dX7_newList_38 ?_
        refine lv_iload_n hx hb dX7_newList_41 rfl (lv_at hl 4 rfl) ?_
        refine eI_wT_wSt_23 kmX7_99 hC hw (m_X8_peek l D cI cC cZ cJ (fun j => ad (23 + j)) 1550 x3 (g_3 9) h) rfl rfl ⟨by decide, by decide⟩ rfl hl.1 (Nat.le_of_ble_eq_true rfl) dX7_newList_42 ⟨Nat.zero_le _, Nat.zero_le _⟩ rfl ?_
        intro r_5 u_7 g_6 H locs eg_6 h hw
        have h := h g_6 eg_6
        refine eV_wT_wHp_6 kmX7_153 hC hw (m_X2_put l D cI cC cZ cJ (fun j => ad (6 + j)) N r_2 r_5 (g_6 2) h) rfl rfl ⟨by decide, by decide⟩ rfl hl.1 (Nat.le_of_ble_eq_true rfl) dX7_newList_45 ⟨Nat.zero_le _, Nat.zero_le _⟩ rfl ?_
        intro u_10 g_9 H locs eg_9 h hw
        have h := h g_9 eg_9
        refine lv_aload_n hx hb dX7_newList_48 rfl (lv_at hl 1 rfl) ?_
        refine gt (v := .ref (ad 6)) kfX7_26 13 hC hw rfl rfl dX7_newList_49 ?_
        refine lv_iload hx hb dX7_newList_52 (lv_at hl 0 rfl) ?_
        refine lv_iconst (v := (1 : Int32)) hx hb dX7_newList_54 (by decide) ?_
        refine lv_iadd hx hb dX7_newList_55 ?_
        refine lv_iload_n hx hb dX7_newList_56 rfl (lv_at hl 3 rfl) ?_
        refine eV_wT_wHp_6 kmX7_153 hC hw (m_X2_put l D cI cC cZ cJ (fun j => ad (6 + j)) N (r_2 + (1 : Int32)) x2 (g_9 2) h) rfl rfl ⟨by decide, by decide⟩ rfl hl.1 (Nat.le_of_ble_eq_true rfl) dX7_newList_57 ⟨Nat.zero_le _, Nat.zero_le _⟩ rfl ?_
        intro u_13 g_12 H locs eg_12 h hw
        have h := h g_12 eg_12
        refine lv_iconst (v := (4 : Int32)) hx hb dX7_newList_60 (by decide) ?_
        refine lv_iload hx hb dX7_newList_61 (lv_at hl 0 rfl) ?_
        refine cSI ksX7_206 hC (m_X10_of l (4 : Int32) r_2 h) rfl rfl ⟨by decide, by decide⟩ rfl hl.1 (Nat.le_of_ble_eq_true rfl) dX7_newList_63 ⟨Nat.zero_le _, Nat.zero_le _⟩ rfl ?_
        intro r_14 h
        refine lv_istore_n (lv' := [(2, .int r_14), (4, .int r_2), (0, .ref (ad 13)), (1, .int x1), (3, .int x3)]) hx hb dX7_newList_66 rfl hl (by decide) rfl (fun ls hl => ?_)
        obtain ⟨x_15, ex_15⟩ : ∃ y : Int32, y = x3 + (1 : Int32) := ⟨_, rfl⟩
        have h := h x_15 ex_15
        refine lv_iinc (v := x_15) (lv' := [(3, .int x_15), (2, .int r_14), (4, .int r_2), (0, .ref (ad 13)), (1, .int x1)]) hx hb dX7_newList_67 hl (k := 4) rfl (by rw [ex_15]; rfl) (by decide) rfl (fun ls hl => ?_)
        refine lv_goto (tgt := 16) hx hb dX7_newList_70 (by decide) ?_
        exact ih x1 r_14 x_15 g_12 _ _ _ h hw (lv_sub hl [3, 4, 1, 0] rfl)
  unfold V_X7_newList at h
  refine lv_aload_n hx hb dX7_newList_0 rfl (lv_at hl 0 rfl) ?_
  refine lv_iconst (v := (2 : Int32)) hx hb dX7_newList_1 (by decide) ?_
  refine lv_iload_n hx hb dX7_newList_2 rfl (lv_at hl 1 rfl) ?_
  refine lv_imul hx hb dX7_newList_3 ?_
  refine cVIwe kmX7_200 hC hw hE (m_X7_isRoomFor l D cI cC cZ cJ ad N ea ((2 : Int32) * x1) G h) rfl rfl ⟨by decide, by decide⟩ (recvW hw rfl 13 rfl) rfl hl.1 (Nat.le_of_ble_eq_true rfl) dX7_newList_4 ⟨Nat.zero_le _, Nat.zero_le _⟩ rfl ?_
  intro r_16 g_17 H locs h hw
  refine lv_if_ne (tgt := 12) hx hb dX7_newList_7 (by decide) (fun c_18 => ?_) (fun c_18 => ?_)
  · have h := h.1 c_18
    refine lv_iconst (v := (1 : Int32)) hx hb dX7_newList_12 (by decide) ?_
    refine lv_topi (fun x_19 ex_19 => ?_)
    have h := h x_19 ex_19
    refine lv_istore_n (lv' := [(2, .int x_19), (0, .ref (ad 13)), (1, .int x1)]) hx hb dX7_newList_13 rfl hl (by decide) rfl (fun ls hl => ?_)
    refine lv_iconst (v := (0 : Int32)) hx hb dX7_newList_14 (by decide) ?_
    refine lv_topi (fun x_20 ex_20 => ?_)
    have h := h x_20 ex_20
    refine lv_istore_n (lv' := [(3, .int x_20), (2, .int x_19), (0, .ref (ad 13)), (1, .int x1)]) hx hb dX7_newList_15 rfl hl (by decide) rfl (fun ls hl => ?_)
    exact w_16 n x1 x_19 x_20 g_17 _ _ _ h hw (lv_sub hl [2, 3, 1, 0] rfl)
  · have h := h.2 c_18
    refine lv_iconst (v := (1 : Int32)) hx hb dX7_newList_10 (by decide) ?_
    exact rtI (wf := (fun u : SG => (wT ad cI cC cZ cJ N u))) g_17 hC hr hlk hw rfl h dX7_newList_11
def V_X7_replaced (N : Nat) (x1 : Int32) (x2 : Int32) (x3 : Int32) (G : SG) (post : Int32 → SG → Prop) : Prop := V_X10_tag x1 (fun r_1 => ((r_1 = (4 : Int32) → V_X10_held x1 (fun r_3 => V_X2_replace N (r_3 + x2) x3 (G 2) (fun u_6 => ∀ g_5 : SG, g_5 = uo G 2 u_6 → post x1 g_5))) ∧ (¬ r_1 = (4 : Int32) → V_X7_failing N (4 : Int32) G (fun r_7 g_8 => post r_7 g_8))))
abbrev RM_X7_replaced : Room := { frames := 2, cells := 0, slots := 0, locals := 44 }
set_option maxHeartbeats 4000000 in
set_option maxRecDepth 100000 in
theorem m_X7_replaced (l : Launch) (D : va_G) (cI cC cZ cJ : ClassId) (ad : Nat → Nat) (N : Nat) (ea : Nat → Nat → Nat) (x1 : Int32) (x2 : Int32) (x3 : Int32) (G : SG) {post : Int32 → SG → Prop} (h : V_X7_replaced N x1 x2 x3 G post) : MetIE ea l yX7_replaced cX7_replaced 4 .int RM_X7_replaced D (ty4 cI cC cZ cJ) (wT ad cI cC cZ cJ N G) [.ref (ad 13), .int x1, .int x2, .int x3] (fun u : SG => (wT ad cI cC cZ cJ N u)) post := by
  refine mkIE (by decide) (Nat.le_of_ble_eq_true rfl) ?_
  intro p e s m args below meth c A ls hC hr hlk hw hE hl
  have hx := hC.1
  have hb := hC.2.1
  have hl : lv_has ls 4 [(0, .ref (ad 13)), (1, .int x1), (2, .int x2), (3, .int x3)] := hl
  unfold V_X7_replaced at h
  refine lv_iload_n hx hb dX7_replaced_0 rfl (lv_at hl 1 rfl) ?_
  refine cSI ksX7_210 hC (m_X10_tag l x1 h) rfl rfl ⟨by decide, by decide⟩ rfl hl.1 (Nat.le_of_ble_eq_true rfl) dX7_replaced_1 ⟨Nat.zero_le _, Nat.zero_le _⟩ rfl ?_
  intro r_1 h
  refine lv_iconst (v := (4 : Int32)) hx hb dX7_replaced_4 (by decide) ?_
  refine lv_icmp_eq (tgt := 14) hx hb dX7_replaced_5 (by decide) (fun c_2 => ?_) (fun c_2 => ?_)
  · have h := h.1 c_2
    refine lv_aload_n hx hb dX7_replaced_14 rfl (lv_at hl 0 rfl) ?_
    refine gt (v := .ref (ad 6)) kfX7_26 13 hC hw rfl rfl dX7_replaced_15 ?_
    refine lv_iload_n hx hb dX7_replaced_18 rfl (lv_at hl 1 rfl) ?_
    refine cSI ksX7_183 hC (m_X10_held l x1 h) rfl rfl ⟨by decide, by decide⟩ rfl hl.1 (Nat.le_of_ble_eq_true rfl) dX7_replaced_19 ⟨Nat.zero_le _, Nat.zero_le _⟩ rfl ?_
    intro r_3 h
    refine lv_iload_n hx hb dX7_replaced_22 rfl (lv_at hl 2 rfl) ?_
    refine lv_iadd hx hb dX7_replaced_23 ?_
    refine lv_iload_n hx hb dX7_replaced_24 rfl (lv_at hl 3 rfl) ?_
    refine eV_wT_wHp_6 kmX7_274 hC hw (m_X2_replace l D cI cC cZ cJ (fun j => ad (6 + j)) N (r_3 + x2) x3 (G 2) h) rfl rfl ⟨by decide, by decide⟩ rfl hl.1 (Nat.le_of_ble_eq_true rfl) dX7_replaced_25 ⟨Nat.zero_le _, Nat.zero_le _⟩ rfl ?_
    intro u_6 g_5 H locs eg_5 h hw
    have h := h g_5 eg_5
    refine lv_iload_n hx hb dX7_replaced_28 rfl (lv_at hl 1 rfl) ?_
    exact rtI (wf := (fun u : SG => (wT ad cI cC cZ cJ N u))) g_5 hC hr hlk hw rfl h dX7_replaced_29
  · have h := h.2 c_2
    refine lv_aload_n hx hb dX7_replaced_8 rfl (lv_at hl 0 rfl) ?_
    refine lv_iconst (v := (4 : Int32)) hx hb dX7_replaced_9 (by decide) ?_
    refine cVIwe kmX7_271 hC hw hE (m_X7_failing l D cI cC cZ cJ ad N ea (4 : Int32) G h) rfl rfl ⟨by decide, by decide⟩ (recvW hw rfl 13 rfl) rfl hl.1 (Nat.le_of_ble_eq_true rfl) dX7_replaced_10 ⟨Nat.zero_le _, Nat.zero_le _⟩ rfl ?_
    intro r_7 g_8 H locs h hw
    exact rtI (wf := (fun u : SG => (wT ad cI cC cZ cJ N u))) g_8 hC hr hlk hw rfl h dX7_replaced_13
def V_X7_truth (x0 : Int32) (post : Int32 → Prop) : Prop := ((x0 = 0 → post (1 : Int32)) ∧ (¬ x0 = 0 → V_X10_of (3 : Int32) (0 : Int32) (fun r_2 => post r_2)))
abbrev RM_X7_truth : Room := { frames := 1, cells := 0, slots := 0, locals := 21 }
set_option maxHeartbeats 4000000 in
set_option maxRecDepth 100000 in
theorem m_X7_truth (l : Launch) (x0 : Int32) {post : Int32 → Prop} (h : V_X7_truth x0 post) : MetS l yX7_truth cX7_truth 1 .int RM_X7_truth [.int x0] post := by
  refine mkS (by decide) (Nat.le_of_ble_eq_true rfl) ?_
  intro p e s m args below meth c ls hC hr hlk hl
  have hx := hC.1
  have hb := hC.2.1
  have hl : lv_has ls 1 [(0, .int x0)] := hl
  unfold V_X7_truth at h
  refine lv_iload_n hx hb dX7_truth_0 rfl (lv_at hl 0 rfl) ?_
  refine lv_if_eq (tgt := 12) hx hb dX7_truth_1 (by decide) (fun c_1 => ?_) (fun c_1 => ?_)
  · have h := h.1 c_1
    refine lv_iconst (v := (1 : Int32)) hx hb dX7_truth_12 (by decide) ?_
    exact rtS hC hr hlk rfl h dX7_truth_13
  · have h := h.2 c_1
    refine lv_iconst (v := (3 : Int32)) hx hb dX7_truth_4 (by decide) ?_
    refine lv_iconst (v := (0 : Int32)) hx hb dX7_truth_5 (by decide) ?_
    refine cSI ksX7_206 hC (m_X10_of l (3 : Int32) (0 : Int32) h) rfl rfl ⟨by decide, by decide⟩ rfl hl.1 (Nat.le_of_ble_eq_true rfl) dX7_truth_6 ⟨Nat.zero_le _, Nat.zero_le _⟩ rfl ?_
    intro r_2 h
    refine lv_goto (tgt := 13) hx hb dX7_truth_9 (by decide) ?_
    exact rtS hC hr hlk rfl h dX7_truth_13
def V_X7_newVector_66 (N : Nat) (post : Int32 → SG → Prop) : Nat → Int32 → Int32 → Int32 → Int32 → SG → Prop
  | 0, _, _, _, _, _ => False
  | n + 1, x2, x3, x4, x5, G => ((x3 < x5 → V_X10_of (5 : Int32) x4 (fun r_2 => post r_2 G)) ∧ (¬ x3 < x5 → V_X2_put N (x4 + x5) x2 (G 2) (fun u_5 => ∀ g_4 : SG, g_4 = uo G 2 u_5 → ∀ x_6 : Int32, x_6 = x5 + (1 : Int32) → V_X7_newVector_66 N post n x2 x3 x4 x_6 g_4)))
def V_X7_newVector (N : Nat) (n : Nat) (x1 : Int32) (x2 : Int32) (G : SG) (post : Int32 → SG → Prop) : Prop := V_X10_held x1 (fun r_7 => V_X10_tag x1 (fun r_8 => ((¬ r_8 = (2 : Int32) → V_X7_failing N (4 : Int32) G (fun r_10 g_11 => post r_10 g_11)) ∧ (r_8 = (2 : Int32) → ((r_7 < 0 → V_X7_failing N (4 : Int32) G (fun r_13 g_14 => post r_13 g_14)) ∧ (¬ r_7 < 0 → ((r_7 ≤ (7 : Int32) → V_X7_isRoomFor N ((1 : Int32) + r_7) G (fun r_16 g_17 => ((¬ r_16 = 0 → V_X2_make N ((1 : Int32) + r_7) (g_17 2) (fun r_19 u_21 => ∀ g_20 : SG, g_20 = uo g_17 2 u_21 → V_X2_put N r_19 x1 (g_20 2) (fun u_24 => ∀ g_23 : SG, g_23 = uo g_20 2 u_24 → ∀ x_25 : Int32, x_25 = (1 : Int32) → V_X7_newVector_66 N post n x2 r_7 r_19 x_25 g_23))) ∧ (r_16 = 0 → post (1 : Int32) g_17)))) ∧ (¬ r_7 ≤ (7 : Int32) → V_X7_failing N (4 : Int32) G (fun r_26 g_27 => post r_26 g_27)))))))))
abbrev RM_X7_newVector : Room := { frames := 2, cells := 0, slots := 0, locals := 42 }
set_option maxHeartbeats 4000000 in
set_option maxRecDepth 100000 in
theorem m_X7_newVector (l : Launch) (D : va_G) (cI cC cZ cJ : ClassId) (ad : Nat → Nat) (N : Nat) (ea : Nat → Nat → Nat) (n : Nat) (x1 : Int32) (x2 : Int32) (G : SG) {post : Int32 → SG → Prop} (h : V_X7_newVector N n x1 x2 G post) : MetIE ea l yX7_newVector cX7_newVector 6 .int RM_X7_newVector D (ty4 cI cC cZ cJ) (wT ad cI cC cZ cJ N G) [.ref (ad 13), .int x1, .int x2] (fun u : SG => (wT ad cI cC cZ cJ N u)) post := by
  refine mkIE (by decide) (Nat.le_of_ble_eq_true rfl) ?_
  intro p e s m args below meth c A ls hC hr hlk hw hE hl
  have hx := hC.1
  have hb := hC.2.1
  have hl : lv_has ls 6 [(0, .ref (ad 13)), (1, .int x1), (2, .int x2)] := hl
  have w_66 : ∀ (n : Nat) (x2 : Int32) (x3 : Int32) (x4 : Int32) (x5 : Int32) (G : SG) (H : Heap) (locs : List Loc) (ls : Array Slot), V_X7_newVector_66 N post n x2 x3 x4 x5 G → Wd D (ty4 cI cC cZ cJ) A s (wT ad cI cC cZ cJ N G) H locs → lv_has ls 6 [(0, .ref (ad 13)), (2, .int x2), (3, .int x3), (4, .int x4), (5, .int x5)] → W p l e RM_X7_newVector s m args below meth c H locs 0 0 (QI below D (ty4 cI cC cZ cJ) A args s (fun u : SG => (wT ad cI cC cZ cJ N u)) post) (F0 m 66 ls []) := by
    intro n
    induction n with
    | zero =>
      intro x2 x3 x4 x5 G H locs ls h
      exact False.elim h
    | succ n ih =>
      intro x2 x3 x4 x5 G H locs ls h hw hl
      rw [V_X7_newVector_66] at h
      refine lv_iload hx hb dX7_newVector_66 (lv_at hl 4 rfl) ?_
      refine lv_iload_n hx hb dX7_newVector_68 rfl (lv_at hl 2 rfl) ?_
      refine lv_icmp_gt (tgt := 91) hx hb dX7_newVector_69 (by decide) (fun c_1 => ?_) (fun c_1 => ?_)
      · have h := h.1 c_1
        refine lv_iconst (v := (5 : Int32)) hx hb dX7_newVector_91 (by decide) ?_
        refine lv_iload hx hb dX7_newVector_92 (lv_at hl 3 rfl) ?_
        refine cSI ksX7_206 hC (m_X10_of l (5 : Int32) x4 h) rfl rfl ⟨by decide, by decide⟩ rfl hl.1 (Nat.le_of_ble_eq_true rfl) dX7_newVector_94 ⟨Nat.zero_le _, Nat.zero_le _⟩ rfl ?_
        intro r_2 h
        exact rtI (wf := (fun u : SG => (wT ad cI cC cZ cJ N u))) G hC hr hlk hw rfl h dX7_newVector_97
      · have h := h.2 c_1
        refine lv_aload_n hx hb dX7_newVector_72 rfl (lv_at hl 0 rfl) ?_
        refine gt (v := .ref (ad 6)) kfX7_26 13 hC hw rfl rfl dX7_newVector_73 ?_
        refine lv_iload hx hb dX7_newVector_76 (lv_at hl 3 rfl) ?_
        refine lv_iload hx hb dX7_newVector_78 (lv_at hl 4 rfl) ?_
        refine lv_iadd hx hb dX7_newVector_80 ?_
        refine lv_iload_n hx hb dX7_newVector_81 rfl (lv_at hl 1 rfl) ?_
        refine eV_wT_wHp_6 kmX7_153 hC hw (m_X2_put l D cI cC cZ cJ (fun j => ad (6 + j)) N (x4 + x5) x2 (G 2) h) rfl rfl ⟨by decide, by decide⟩ rfl hl.1 (Nat.le_of_ble_eq_true rfl) dX7_newVector_82 ⟨Nat.zero_le _, Nat.zero_le _⟩ rfl ?_
        intro u_5 g_4 H locs eg_4 h hw
        have h := h g_4 eg_4
        obtain ⟨x_6, ex_6⟩ : ∃ y : Int32, y = x5 + (1 : Int32) := ⟨_, rfl⟩
        have h := h x_6 ex_6
        refine lv_iinc (v := x_6) (lv' := [(5, .int x_6), (0, .ref (ad 13)), (2, .int x2), (3, .int x3), (4, .int x4)]) hx hb dX7_newVector_85 hl (k := 4) rfl (by rw [ex_6]; rfl) (by decide) rfl (fun ls hl => ?_)
        refine lv_goto (tgt := 66) hx hb dX7_newVector_88 (by decide) ?_
        exact ih x2 x3 x4 x_6 g_4 _ _ _ h hw (lv_sub hl [1, 2, 3, 4, 0] rfl)
  unfold V_X7_newVector at h
  refine lv_iload_n hx hb dX7_newVector_0 rfl (lv_at hl 1 rfl) ?_
  refine cSI ksX7_183 hC (m_X10_held l x1 h) rfl rfl ⟨by decide, by decide⟩ rfl hl.1 (Nat.le_of_ble_eq_true rfl) dX7_newVector_1 ⟨Nat.zero_le _, Nat.zero_le _⟩ rfl ?_
  intro r_7 h
  refine lv_istore_n (lv' := [(3, .int r_7), (0, .ref (ad 13)), (1, .int x1), (2, .int x2)]) hx hb dX7_newVector_4 rfl hl (by decide) rfl (fun ls hl => ?_)
  refine lv_iload_n hx hb dX7_newVector_5 rfl (lv_at hl 2 rfl) ?_
  refine cSI ksX7_210 hC (m_X10_tag l x1 h) rfl rfl ⟨by decide, by decide⟩ rfl hl.1 (Nat.le_of_ble_eq_true rfl) dX7_newVector_6 ⟨Nat.zero_le _, Nat.zero_le _⟩ rfl ?_
  intro r_8 h
  refine lv_iconst (v := (2 : Int32)) hx hb dX7_newVector_9 (by decide) ?_
  refine lv_icmp_ne (tgt := 23) hx hb dX7_newVector_10 (by decide) (fun c_9 => ?_) (fun c_9 => ?_)
  · have h := h.1 c_9
    refine lv_aload_n hx hb dX7_newVector_23 rfl (lv_at hl 1 rfl) ?_
    refine lv_iconst (v := (4 : Int32)) hx hb dX7_newVector_24 (by decide) ?_
    refine cVIwe kmX7_271 hC hw hE (m_X7_failing l D cI cC cZ cJ ad N ea (4 : Int32) G h) rfl rfl ⟨by decide, by decide⟩ (recvW hw rfl 13 rfl) rfl hl.1 (Nat.le_of_ble_eq_true rfl) dX7_newVector_25 ⟨Nat.zero_le _, Nat.zero_le _⟩ rfl ?_
    intro r_10 g_11 H locs h hw
    exact rtI (wf := (fun u : SG => (wT ad cI cC cZ cJ N u))) g_11 hC hr hlk hw rfl h dX7_newVector_28
  · have h := h.2 c_9
    refine lv_iload_n hx hb dX7_newVector_13 rfl (lv_at hl 0 rfl) ?_
    refine lv_if_lt (tgt := 23) hx hb dX7_newVector_14 (by decide) (fun c_12 => ?_) (fun c_12 => ?_)
    · have h := h.1 c_12
      refine lv_aload_n hx hb dX7_newVector_23 rfl (lv_at hl 1 rfl) ?_
      refine lv_iconst (v := (4 : Int32)) hx hb dX7_newVector_24 (by decide) ?_
      refine cVIwe kmX7_271 hC hw hE (m_X7_failing l D cI cC cZ cJ ad N ea (4 : Int32) G h) rfl rfl ⟨by decide, by decide⟩ (recvW hw rfl 13 rfl) rfl hl.1 (Nat.le_of_ble_eq_true rfl) dX7_newVector_25 ⟨Nat.zero_le _, Nat.zero_le _⟩ rfl ?_
      intro r_13 g_14 H locs h hw
      exact rtI (wf := (fun u : SG => (wT ad cI cC cZ cJ N u))) g_14 hC hr hlk hw rfl h dX7_newVector_28
    · have h := h.2 c_12
      refine lv_iload_n hx hb dX7_newVector_17 rfl (lv_at hl 0 rfl) ?_
      refine lv_bipush (v := (7 : Int32)) hx hb dX7_newVector_18 (by decide) ?_
      refine lv_icmp_le (tgt := 29) hx hb dX7_newVector_20 (by decide) (fun c_15 => ?_) (fun c_15 => ?_)
      · have h := h.1 c_15
        refine lv_aload_n hx hb dX7_newVector_29 rfl (lv_at hl 1 rfl) ?_
        refine lv_iconst (v := (1 : Int32)) hx hb dX7_newVector_30 (by decide) ?_
        refine lv_iload_n hx hb dX7_newVector_31 rfl (lv_at hl 0 rfl) ?_
        refine lv_iadd hx hb dX7_newVector_32 ?_
        refine cVIwe kmX7_200 hC hw hE (m_X7_isRoomFor l D cI cC cZ cJ ad N ea ((1 : Int32) + r_7) G h) rfl rfl ⟨by decide, by decide⟩ (recvW hw rfl 13 rfl) rfl hl.1 (Nat.le_of_ble_eq_true rfl) dX7_newVector_33 ⟨Nat.zero_le _, Nat.zero_le _⟩ rfl ?_
        intro r_16 g_17 H locs h hw
        refine lv_if_ne (tgt := 41) hx hb dX7_newVector_36 (by decide) (fun c_18 => ?_) (fun c_18 => ?_)
        · have h := h.1 c_18
          refine lv_aload_n hx hb dX7_newVector_41 rfl (lv_at hl 1 rfl) ?_
          refine gt (v := .ref (ad 6)) kfX7_26 13 hC hw rfl rfl dX7_newVector_42 ?_
          refine lv_iconst (v := (1 : Int32)) hx hb dX7_newVector_45 (by decide) ?_
          refine lv_iload_n hx hb dX7_newVector_46 rfl (lv_at hl 0 rfl) ?_
          refine lv_iadd hx hb dX7_newVector_47 ?_
          refine eI_wT_wHp_6 kmX7_203 hC hw (m_X2_make l D cI cC cZ cJ (fun j => ad (6 + j)) N ((1 : Int32) + r_7) (g_17 2) h) rfl rfl ⟨by decide, by decide⟩ rfl hl.1 (Nat.le_of_ble_eq_true rfl) dX7_newVector_48 ⟨Nat.zero_le _, Nat.zero_le _⟩ rfl ?_
          intro r_19 u_21 g_20 H locs eg_20 h hw
          have h := h g_20 eg_20
          refine lv_istore (lv' := [(4, .int r_19), (3, .int r_7), (0, .ref (ad 13)), (1, .int x1), (2, .int x2)]) hx hb dX7_newVector_51 hl (by decide) rfl (fun ls hl => ?_)
          refine lv_aload_n hx hb dX7_newVector_53 rfl (lv_at hl 2 rfl) ?_
          refine gt (v := .ref (ad 6)) kfX7_26 13 hC hw rfl rfl dX7_newVector_54 ?_
          refine lv_iload hx hb dX7_newVector_57 (lv_at hl 0 rfl) ?_
          refine lv_iload_n hx hb dX7_newVector_59 rfl (lv_at hl 3 rfl) ?_
          refine eV_wT_wHp_6 kmX7_153 hC hw (m_X2_put l D cI cC cZ cJ (fun j => ad (6 + j)) N r_19 x1 (g_20 2) h) rfl rfl ⟨by decide, by decide⟩ rfl hl.1 (Nat.le_of_ble_eq_true rfl) dX7_newVector_60 ⟨Nat.zero_le _, Nat.zero_le _⟩ rfl ?_
          intro u_24 g_23 H locs eg_23 h hw
          have h := h g_23 eg_23
          refine lv_iconst (v := (1 : Int32)) hx hb dX7_newVector_63 (by decide) ?_
          refine lv_topi (fun x_25 ex_25 => ?_)
          have h := h x_25 ex_25
          refine lv_istore (lv' := [(5, .int x_25), (4, .int r_19), (3, .int r_7), (0, .ref (ad 13)), (1, .int x1), (2, .int x2)]) hx hb dX7_newVector_64 hl (by decide) rfl (fun ls hl => ?_)
          exact w_66 n x2 r_7 r_19 x_25 g_23 _ _ _ h hw (lv_sub hl [3, 5, 2, 1, 0] rfl)
        · have h := h.2 c_18
          refine lv_iconst (v := (1 : Int32)) hx hb dX7_newVector_39 (by decide) ?_
          exact rtI (wf := (fun u : SG => (wT ad cI cC cZ cJ N u))) g_17 hC hr hlk hw rfl h dX7_newVector_40
      · have h := h.2 c_15
        refine lv_aload_n hx hb dX7_newVector_23 rfl (lv_at hl 1 rfl) ?_
        refine lv_iconst (v := (4 : Int32)) hx hb dX7_newVector_24 (by decide) ?_
        refine cVIwe kmX7_271 hC hw hE (m_X7_failing l D cI cC cZ cJ ad N ea (4 : Int32) G h) rfl rfl ⟨by decide, by decide⟩ (recvW hw rfl 13 rfl) rfl hl.1 (Nat.le_of_ble_eq_true rfl) dX7_newVector_25 ⟨Nat.zero_le _, Nat.zero_le _⟩ rfl ?_
        intro r_26 g_27 H locs h hw
        exact rtI (wf := (fun u : SG => (wT ad cI cC cZ cJ N u))) g_27 hC hr hlk hw rfl h dX7_newVector_28
