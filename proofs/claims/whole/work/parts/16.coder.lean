abbrev RM_X1_evaluation (d : Nat) : Room := { frames := 8 * d + (10 + 0), cells := 0, slots := 0, locals := 200 * d + (300 + 0) }
def V_X1_at (N : Nat) (x1 : Int32) (G : SG) (post : Int32 → SG → Prop) : Prop := ((x1 < 0 → post (0 : Int32) G) ∧ (¬ x1 < 0 → (((1536 : Int32) ≤ x1 → post (0 : Int32) G) ∧ (¬ (1536 : Int32) ≤ x1 → (vp_in x1 1536 ∧ post (G 7 1 x1.toNatClampNeg) G)))))
abbrev RM_X1_at : Room := { frames := 0, cells := 0, slots := 0, locals := 0 }
set_option maxHeartbeats 4000000 in
set_option maxRecDepth 100000 in
theorem m_X1_at (l : Launch) (D : va_G) (cI cC cZ cJ : ClassId) (ad : Nat → Nat) (N : Nat) (ea : Nat → Nat → Nat) (x1 : Int32) (G : SG) {post : Int32 → SG → Prop} (h : V_X1_at N x1 G post) : MetIE ea l yX1_at cX1_at 2 .int RM_X1_at D (ty4 cI cC cZ cJ) (wT ad cI cC cZ cJ N G) [.ref (ad 19), .int x1] (fun u : SG => (wT ad cI cC cZ cJ N u)) post := by
  refine mkIE (by decide) (Nat.le_of_ble_eq_true rfl) ?_
  intro p e s m args below meth c A ls hC hr hlk hw hE hl
  have hx := hC.1
  have hb := hC.2.1
  have hl : lv_has ls 2 [(0, .ref (ad 19)), (1, .int x1)] := hl
  unfold V_X1_at at h
  refine lv_iload_n hx hb dX1_at_0 rfl (lv_at hl 1 rfl) ?_
  refine lv_if_lt (tgt := 22) hx hb dX1_at_1 (by decide) (fun c_1 => ?_) (fun c_1 => ?_)
  · have h := h.1 c_1
    refine lv_iconst (v := (0 : Int32)) hx hb dX1_at_22 (by decide) ?_
    exact rtI (wf := (fun u : SG => (wT ad cI cC cZ cJ N u))) G hC hr hlk hw rfl h dX1_at_23
  · have h := h.2 c_1
    refine lv_iload_n hx hb dX1_at_4 rfl (lv_at hl 1 rfl) ?_
    refine lv_aload_n hx hb dX1_at_5 rfl (lv_at hl 0 rfl) ?_
    refine gt (v := .ref (ad 20)) kfX1_11 19 hC hw rfl rfl dX1_at_6 ?_
    refine aln 20 0 (v := (1536 : Int32)) hC hw rfl rfl (show Int32.ofNat 1536 = (1536 : Int32) by decide) dX1_at_9 ?_
    refine lv_icmp_ge (tgt := 22) hx hb dX1_at_10 (by decide) (fun c_2 => ?_) (fun c_2 => ?_)
    · have h := h.1 c_2
      refine lv_iconst (v := (0 : Int32)) hx hb dX1_at_22 (by decide) ?_
      exact rtI (wf := (fun u : SG => (wT ad cI cC cZ cJ N u))) G hC hr hlk hw rfl h dX1_at_23
    · have h := h.2 c_2
      refine lv_aload_n hx hb dX1_at_13 rfl (lv_at hl 0 rfl) ?_
      refine gt (v := .ref (ad 20)) kfX1_11 19 hC hw rfl rfl dX1_at_14 ?_
      refine lv_iload_n hx hb dX1_at_17 rfl (lv_at hl 1 rfl) ?_
      refine ldI 20 0 hC hw rfl rfl h.1 dX1_at_18 ?_
      have h := h.2
      refine lv_goto (tgt := 23) hx hb dX1_at_19 (by decide) ?_
      exact rtI (wf := (fun u : SG => (wT ad cI cC cZ cJ N u))) G hC hr hlk hw rfl h dX1_at_23
def V_X1_emit (N : Nat) (x1 : Int32) (G : SG) (post : SG → Prop) : Prop := (((1536 : Int32) ≤ (G 7 0 0) → post G) ∧ (¬ (1536 : Int32) ≤ (G 7 0 0) → (vp_in (G 7 0 0) 1536 ∧ ∀ g_2 : SG, g_2 = uo G 7 (up (G 7) 1 (G 7 0 0).toNatClampNeg x1) → ∀ g_3 : SG, g_3 = uo g_2 7 (us (g_2 7) 0 ((g_2 7 0 0) + (1 : Int32))) → post g_3)))
abbrev RM_X1_emit : Room := { frames := 0, cells := 0, slots := 0, locals := 0 }
set_option maxHeartbeats 4000000 in
set_option maxRecDepth 100000 in
theorem m_X1_emit (l : Launch) (D : va_G) (cI cC cZ cJ : ClassId) (ad : Nat → Nat) (N : Nat) (ea : Nat → Nat → Nat) (x1 : Int32) (G : SG) {post : SG → Prop} (h : V_X1_emit N x1 G post) : MetVE ea l yX1_emit cX1_emit 2 RM_X1_emit D (ty4 cI cC cZ cJ) (wT ad cI cC cZ cJ N G) [.ref (ad 19), .int x1] (fun u : SG => (wT ad cI cC cZ cJ N u)) post := by
  refine mkVE (by decide) (Nat.le_of_ble_eq_true rfl) ?_
  intro p e s m args below meth c A ls hC hr hlk hw hE hl
  have hx := hC.1
  have hb := hC.2.1
  have hl : lv_has ls 2 [(0, .ref (ad 19)), (1, .int x1)] := hl
  unfold V_X1_emit at h
  refine lv_aload_n hx hb dX1_emit_0 rfl (lv_at hl 0 rfl) ?_
  refine gt (v := .int (G 7 0 0)) kfX1_32 19 hC hw rfl rfl dX1_emit_1 ?_
  refine lv_aload_n hx hb dX1_emit_4 rfl (lv_at hl 0 rfl) ?_
  refine gt (v := .ref (ad 20)) kfX1_11 19 hC hw rfl rfl dX1_emit_5 ?_
  refine aln 20 0 (v := (1536 : Int32)) hC hw rfl rfl (show Int32.ofNat 1536 = (1536 : Int32) by decide) dX1_emit_8 ?_
  refine lv_icmp_ge (tgt := 32) hx hb dX1_emit_9 (by decide) (fun c_1 => ?_) (fun c_1 => ?_)
  · have h := h.1 c_1
    exact rtV (wf := (fun u : SG => (wT ad cI cC cZ cJ N u))) G hC hr hlk hw h dX1_emit_32
  · have h := h.2 c_1
    refine lv_aload_n hx hb dX1_emit_12 rfl (lv_at hl 0 rfl) ?_
    refine gt (v := .ref (ad 20)) kfX1_11 19 hC hw rfl rfl dX1_emit_13 ?_
    refine lv_aload_n hx hb dX1_emit_16 rfl (lv_at hl 0 rfl) ?_
    refine gt (v := .int (G 7 0 0)) kfX1_32 19 hC hw rfl rfl dX1_emit_17 ?_
    refine lv_iload_n hx hb dX1_emit_20 rfl (lv_at hl 1 rfl) ?_
    refine swT_20 h.1 hC hw dX1_emit_21 (fun H locs g_2 eg_2 hw => ?_)
    have h := h.2 g_2 eg_2
    refine lv_aload_n hx hb dX1_emit_22 rfl (lv_at hl 0 rfl) ?_
    refine lv_dup hx hb dX1_emit_23 rfl ?_
    refine gt (v := .int (g_2 7 0 0)) kfX1_32 19 hC hw rfl rfl dX1_emit_24 ?_
    refine lv_iconst (v := (1 : Int32)) hx hb dX1_emit_27 (by decide) ?_
    refine lv_iadd hx hb dX1_emit_28 ?_
    refine pwT_19_3 kpX1_32 hC hw dX1_emit_29 (fun H locs g_3 eg_3 hw => ?_)
    have h := h g_3 eg_3
    exact rtV (wf := (fun u : SG => (wT ad cI cC cZ cJ N u))) g_3 hC hr hlk hw h dX1_emit_32
def V_X1_emit_ (N : Nat) (x1 : Int32) (x2 : Int32) (G : SG) (post : SG → Prop) : Prop := V_X1_emit N x1 G (fun g_2 => V_X1_emit N x2 g_2 (fun g_4 => post g_4))
abbrev RM_X1_emit_ : Room := { frames := 1, cells := 0, slots := 0, locals := 21 }
set_option maxHeartbeats 4000000 in
set_option maxRecDepth 100000 in
theorem m_X1_emit_ (l : Launch) (D : va_G) (cI cC cZ cJ : ClassId) (ad : Nat → Nat) (N : Nat) (ea : Nat → Nat → Nat) (x1 : Int32) (x2 : Int32) (G : SG) {post : SG → Prop} (h : V_X1_emit_ N x1 x2 G post) : MetVE ea l yX1_emit_ cX1_emit_ 3 RM_X1_emit_ D (ty4 cI cC cZ cJ) (wT ad cI cC cZ cJ N G) [.ref (ad 19), .int x1, .int x2] (fun u : SG => (wT ad cI cC cZ cJ N u)) post := by
  refine mkVE (by decide) (Nat.le_of_ble_eq_true rfl) ?_
  intro p e s m args below meth c A ls hC hr hlk hw hE hl
  have hx := hC.1
  have hb := hC.2.1
  have hl : lv_has ls 3 [(0, .ref (ad 19)), (1, .int x1), (2, .int x2)] := hl
  unfold V_X1_emit_ at h
  refine lv_aload_n hx hb dX1_emit__0 rfl (lv_at hl 0 rfl) ?_
  refine lv_iload_n hx hb dX1_emit__1 rfl (lv_at hl 1 rfl) ?_
  refine cVVwe kmX1_43 hC hw hE (m_X1_emit l D cI cC cZ cJ ad N ea x1 G h) rfl rfl ⟨by decide, by decide⟩ (recvW hw rfl 19 rfl) rfl hl.1 (Nat.le_of_ble_eq_true rfl) dX1_emit__2 ⟨Nat.zero_le _, Nat.zero_le _⟩ rfl ?_
  intro g_2 H locs h hw
  refine lv_aload_n hx hb dX1_emit__5 rfl (lv_at hl 0 rfl) ?_
  refine lv_iload_n hx hb dX1_emit__6 rfl (lv_at hl 2 rfl) ?_
  refine cVVwe kmX1_43 hC hw hE (m_X1_emit l D cI cC cZ cJ ad N ea x2 g_2 h) rfl rfl ⟨by decide, by decide⟩ (recvW hw rfl 19 rfl) rfl hl.1 (Nat.le_of_ble_eq_true rfl) dX1_emit__7 ⟨Nat.zero_le _, Nat.zero_le _⟩ rfl ?_
  intro g_4 H locs h hw
  exact rtV (wf := (fun u : SG => (wT ad cI cC cZ cJ N u))) g_4 hC hr hlk hw h dX1_emit__10
def V_X1_leap (N : Nat) (x1 : Int32) (G : SG) (post : Int32 → SG → Prop) : Prop := V_X1_emit_ N x1 (0 : Int32) G (fun g_2 => post ((g_2 7 0 0) - (1 : Int32)) g_2)
abbrev RM_X1_leap : Room := { frames := 2, cells := 0, slots := 0, locals := 43 }
set_option maxHeartbeats 4000000 in
set_option maxRecDepth 100000 in
theorem m_X1_leap (l : Launch) (D : va_G) (cI cC cZ cJ : ClassId) (ad : Nat → Nat) (N : Nat) (ea : Nat → Nat → Nat) (x1 : Int32) (G : SG) {post : Int32 → SG → Prop} (h : V_X1_leap N x1 G post) : MetIE ea l yX1_leap cX1_leap 2 .int RM_X1_leap D (ty4 cI cC cZ cJ) (wT ad cI cC cZ cJ N G) [.ref (ad 19), .int x1] (fun u : SG => (wT ad cI cC cZ cJ N u)) post := by
  refine mkIE (by decide) (Nat.le_of_ble_eq_true rfl) ?_
  intro p e s m args below meth c A ls hC hr hlk hw hE hl
  have hx := hC.1
  have hb := hC.2.1
  have hl : lv_has ls 2 [(0, .ref (ad 19)), (1, .int x1)] := hl
  unfold V_X1_leap at h
  refine lv_aload_n hx hb dX1_leap_0 rfl (lv_at hl 0 rfl) ?_
  refine lv_iload_n hx hb dX1_leap_1 rfl (lv_at hl 1 rfl) ?_
  refine lv_iconst (v := (0 : Int32)) hx hb dX1_leap_2 (by decide) ?_
  refine cVVwe kmX1_46 hC hw hE (m_X1_emit_ l D cI cC cZ cJ ad N ea x1 (0 : Int32) G h) rfl rfl ⟨by decide, by decide⟩ (recvW hw rfl 19 rfl) rfl hl.1 (Nat.le_of_ble_eq_true rfl) dX1_leap_3 ⟨Nat.zero_le _, Nat.zero_le _⟩ rfl ?_
  intro g_2 H locs h hw
  refine lv_aload_n hx hb dX1_leap_6 rfl (lv_at hl 0 rfl) ?_
  refine gt (v := .int (g_2 7 0 0)) kfX1_32 19 hC hw rfl rfl dX1_leap_7 ?_
  refine lv_iconst (v := (1 : Int32)) hx hb dX1_leap_10 (by decide) ?_
  refine lv_isub hx hb dX1_leap_11 ?_
  exact rtI (wf := (fun u : SG => (wT ad cI cC cZ cJ N u))) g_2 hC hr hlk hw rfl h dX1_leap_12
def V_X1_land (N : Nat) (x1 : Int32) (G : SG) (post : SG → Prop) : Prop := ((x1 < 0 → post G) ∧ (¬ x1 < 0 → (((1536 : Int32) ≤ x1 → post G) ∧ (¬ (1536 : Int32) ≤ x1 → (vp_in x1 1536 ∧ ∀ g_3 : SG, g_3 = uo G 7 (up (G 7) 1 x1.toNatClampNeg (G 7 0 0)) → post g_3)))))
abbrev RM_X1_land : Room := { frames := 0, cells := 0, slots := 0, locals := 0 }
set_option maxHeartbeats 4000000 in
set_option maxRecDepth 100000 in
theorem m_X1_land (l : Launch) (D : va_G) (cI cC cZ cJ : ClassId) (ad : Nat → Nat) (N : Nat) (ea : Nat → Nat → Nat) (x1 : Int32) (G : SG) {post : SG → Prop} (h : V_X1_land N x1 G post) : MetVE ea l yX1_land cX1_land 2 RM_X1_land D (ty4 cI cC cZ cJ) (wT ad cI cC cZ cJ N G) [.ref (ad 19), .int x1] (fun u : SG => (wT ad cI cC cZ cJ N u)) post := by
  refine mkVE (by decide) (Nat.le_of_ble_eq_true rfl) ?_
  intro p e s m args below meth c A ls hC hr hlk hw hE hl
  have hx := hC.1
  have hb := hC.2.1
  have hl : lv_has ls 2 [(0, .ref (ad 19)), (1, .int x1)] := hl
  unfold V_X1_land at h
  refine lv_iload_n hx hb dX1_land_0 rfl (lv_at hl 1 rfl) ?_
  refine lv_if_lt (tgt := 23) hx hb dX1_land_1 (by decide) (fun c_1 => ?_) (fun c_1 => ?_)
  · have h := h.1 c_1
    exact rtV (wf := (fun u : SG => (wT ad cI cC cZ cJ N u))) G hC hr hlk hw h dX1_land_23
  · have h := h.2 c_1
    refine lv_iload_n hx hb dX1_land_4 rfl (lv_at hl 1 rfl) ?_
    refine lv_aload_n hx hb dX1_land_5 rfl (lv_at hl 0 rfl) ?_
    refine gt (v := .ref (ad 20)) kfX1_11 19 hC hw rfl rfl dX1_land_6 ?_
    refine aln 20 0 (v := (1536 : Int32)) hC hw rfl rfl (show Int32.ofNat 1536 = (1536 : Int32) by decide) dX1_land_9 ?_
    refine lv_icmp_ge (tgt := 23) hx hb dX1_land_10 (by decide) (fun c_2 => ?_) (fun c_2 => ?_)
    · have h := h.1 c_2
      exact rtV (wf := (fun u : SG => (wT ad cI cC cZ cJ N u))) G hC hr hlk hw h dX1_land_23
    · have h := h.2 c_2
      refine lv_aload_n hx hb dX1_land_13 rfl (lv_at hl 0 rfl) ?_
      refine gt (v := .ref (ad 20)) kfX1_11 19 hC hw rfl rfl dX1_land_14 ?_
      refine lv_iload_n hx hb dX1_land_17 rfl (lv_at hl 1 rfl) ?_
      refine lv_aload_n hx hb dX1_land_18 rfl (lv_at hl 0 rfl) ?_
      refine gt (v := .int (G 7 0 0)) kfX1_32 19 hC hw rfl rfl dX1_land_19 ?_
      refine swT_20 h.1 hC hw dX1_land_22 (fun H locs g_3 eg_3 hw => ?_)
      have h := h.2 g_3 eg_3
      exact rtV (wf := (fun u : SG => (wT ad cI cC cZ cJ N u))) g_3 hC hr hlk hw h dX1_land_23
def V_X1_indexIn_5 (N : Nat) (post : Int32 → SG → Prop) : Nat → Int32 → Int32 → Int32 → SG → Prop
  | 0, _, _, _, _ => False
  | n + 1, x2, x3, x4, G => (((4 : Int32) ≤ x4 → post (-1 : Int32) G) ∧ (¬ (4 : Int32) ≤ x4 → V_X10_tag x3 (fun r_2 => ((¬ r_2 = (4 : Int32) → post (-1 : Int32) G) ∧ (r_2 = (4 : Int32) → V_X2_car N x3 (G 2) (fun r_4 u_6 => ∀ g_5 : SG, g_5 = uo G 2 u_6 → ((¬ r_4 = x2 → V_X2_cdr N x3 (g_5 2) (fun r_8 u_10 => ∀ g_9 : SG, g_9 = uo g_5 2 u_10 → ∀ x_11 : Int32, x_11 = x4 + (1 : Int32) → V_X1_indexIn_5 N post n x2 r_8 x_11 g_9)) ∧ (r_4 = x2 → post x4 g_5))))))))
def V_X1_indexIn (N : Nat) (n : Nat) (x1 : Int32) (x2 : Int32) (G : SG) (post : Int32 → SG → Prop) : Prop := ∀ x_12 : Int32, x_12 = (0 : Int32) → V_X1_indexIn_5 N post n x2 x1 x_12 G
abbrev RM_X1_indexIn : Room := { frames := 2, cells := 0, slots := 0, locals := 42 }
set_option maxHeartbeats 4000000 in
set_option maxRecDepth 100000 in
theorem m_X1_indexIn (l : Launch) (D : va_G) (cI cC cZ cJ : ClassId) (ad : Nat → Nat) (N : Nat) (ea : Nat → Nat → Nat) (n : Nat) (x1 : Int32) (x2 : Int32) (G : SG) {post : Int32 → SG → Prop} (h : V_X1_indexIn N n x1 x2 G post) : MetIE ea l yX1_indexIn cX1_indexIn 5 .int RM_X1_indexIn D (ty4 cI cC cZ cJ) (wT ad cI cC cZ cJ N G) [.ref (ad 19), .int x1, .int x2] (fun u : SG => (wT ad cI cC cZ cJ N u)) post := by
  refine mkIE (by decide) (Nat.le_of_ble_eq_true rfl) ?_
  intro p e s m args below meth c A ls hC hr hlk hw hE hl
  have hx := hC.1
  have hb := hC.2.1
  have hl : lv_has ls 5 [(0, .ref (ad 19)), (1, .int x1), (2, .int x2)] := hl
  have w_5 : ∀ (n : Nat) (x2 : Int32) (x3 : Int32) (x4 : Int32) (G : SG) (H : Heap) (locs : List Loc) (ls : Array Slot), V_X1_indexIn_5 N post n x2 x3 x4 G → Wd D (ty4 cI cC cZ cJ) A s (wT ad cI cC cZ cJ N G) H locs → lv_has ls 5 [(0, .ref (ad 19)), (2, .int x2), (3, .int x3), (4, .int x4)] → W p l e RM_X1_indexIn s m args below meth c H locs 0 0 (QI below D (ty4 cI cC cZ cJ) A args s (fun u : SG => (wT ad cI cC cZ cJ N u)) post) (F0 m 5 ls []) := by
    intro n
    induction n with
    | zero =>
      intro x2 x3 x4 G H locs ls h
      exact False.elim h
    | succ n ih =>
      intro x2 x3 x4 G H locs ls h hw hl
      rw [V_X1_indexIn_5] at h
      refine lv_iload hx hb dX1_indexIn_5 (lv_at hl 3 rfl) ?_
      refine lv_iconst (v := (4 : Int32)) hx hb dX1_indexIn_7 (by decide) ?_
      refine lv_icmp_ge (tgt := 49) hx hb dX1_indexIn_8 (by decide) (fun c_1 => ?_) (fun c_1 => ?_)
      · have h := h.1 c_1
        refine lv_iconst (v := (-1 : Int32)) hx hb dX1_indexIn_49 (by decide) ?_
        exact rtI (wf := (fun u : SG => (wT ad cI cC cZ cJ N u))) G hC hr hlk hw rfl h dX1_indexIn_50
      · have h := h.2 c_1
        refine lv_iload_n hx hb dX1_indexIn_11 rfl (lv_at hl 2 rfl) ?_
        refine cSI ksX1_49 hC (m_X10_tag l x3 h) rfl rfl ⟨by decide, by decide⟩ rfl hl.1 (Nat.le_of_ble_eq_true rfl) dX1_indexIn_12 ⟨Nat.zero_le _, Nat.zero_le _⟩ rfl ?_
        intro r_2 h
        refine lv_iconst (v := (4 : Int32)) hx hb dX1_indexIn_15 (by decide) ?_
        refine lv_icmp_ne (tgt := 49) hx hb dX1_indexIn_16 (by decide) (fun c_3 => ?_) (fun c_3 => ?_)
        · have h := h.1 c_3
          refine lv_iconst (v := (-1 : Int32)) hx hb dX1_indexIn_49 (by decide) ?_
          exact rtI (wf := (fun u : SG => (wT ad cI cC cZ cJ N u))) G hC hr hlk hw rfl h dX1_indexIn_50
        · have h := h.2 c_3
          refine lv_aload_n hx hb dX1_indexIn_19 rfl (lv_at hl 0 rfl) ?_
          refine gt (v := .ref (ad 6)) kfX1_24 19 hC hw rfl rfl dX1_indexIn_20 ?_
          refine lv_iload_n hx hb dX1_indexIn_23 rfl (lv_at hl 2 rfl) ?_
          refine eI_wT_wHp_6 kmX1_62 hC hw (m_X2_car l D cI cC cZ cJ (fun j => ad (6 + j)) N x3 (G 2) h) rfl rfl ⟨by decide, by decide⟩ rfl hl.1 (Nat.le_of_ble_eq_true rfl) dX1_indexIn_24 ⟨Nat.zero_le _, Nat.zero_le _⟩ rfl ?_
          intro r_4 u_6 g_5 H locs eg_5 h hw
          have h := h g_5 eg_5
          refine lv_iload_n hx hb dX1_indexIn_27 rfl (lv_at hl 1 rfl) ?_
          refine lv_icmp_ne (tgt := 34) hx hb dX1_indexIn_28 (by decide) (fun c_7 => ?_) (fun c_7 => ?_)
          · have h := h.1 c_7
            refine lv_aload_n hx hb dX1_indexIn_34 rfl (lv_at hl 0 rfl) ?_
            refine gt (v := .ref (ad 6)) kfX1_24 19 hC hw rfl rfl dX1_indexIn_35 ?_
            refine lv_iload_n hx hb dX1_indexIn_38 rfl (lv_at hl 2 rfl) ?_
            refine eI_wT_wHp_6 kmX1_67 hC hw (m_X2_cdr l D cI cC cZ cJ (fun j => ad (6 + j)) N x3 (g_5 2) h) rfl rfl ⟨by decide, by decide⟩ rfl hl.1 (Nat.le_of_ble_eq_true rfl) dX1_indexIn_39 ⟨Nat.zero_le _, Nat.zero_le _⟩ rfl ?_
            intro r_8 u_10 g_9 H locs eg_9 h hw
            have h := h g_9 eg_9
            refine lv_istore_n (lv' := [(3, .int r_8), (0, .ref (ad 19)), (2, .int x2), (4, .int x4)]) hx hb dX1_indexIn_42 rfl hl (by decide) rfl (fun ls hl => ?_)
            obtain ⟨x_11, ex_11⟩ : ∃ y : Int32, y = x4 + (1 : Int32) := ⟨_, rfl⟩
            have h := h x_11 ex_11
            refine lv_iinc (v := x_11) (lv' := [(4, .int x_11), (3, .int r_8), (0, .ref (ad 19)), (2, .int x2)]) hx hb dX1_indexIn_43 hl (k := 3) rfl (by rw [ex_11]; rfl) (by decide) rfl (fun ls hl => ?_)
            refine lv_goto (tgt := 5) hx hb dX1_indexIn_46 (by decide) ?_
            exact ih x2 r_8 x_11 g_9 _ _ _ h hw (lv_sub hl [2, 3, 1, 0] rfl)
          · have h := h.2 c_7
            refine lv_iload hx hb dX1_indexIn_31 (lv_at hl 3 rfl) ?_
            exact rtI (wf := (fun u : SG => (wT ad cI cC cZ cJ N u))) g_5 hC hr hlk hw rfl h dX1_indexIn_33
  unfold V_X1_indexIn at h
  refine lv_iload_n hx hb dX1_indexIn_0 rfl (lv_at hl 1 rfl) ?_
  refine lv_istore_n (lv' := [(3, .int x1), (0, .ref (ad 19)), (1, .int x1), (2, .int x2)]) hx hb dX1_indexIn_1 rfl hl (by decide) rfl (fun ls hl => ?_)
  refine lv_iconst (v := (0 : Int32)) hx hb dX1_indexIn_2 (by decide) ?_
  refine lv_topi (fun x_12 ex_12 => ?_)
  have h := h x_12 ex_12
  refine lv_istore (lv' := [(4, .int x_12), (3, .int x1), (0, .ref (ad 19)), (1, .int x1), (2, .int x2)]) hx hb dX1_indexIn_3 hl (by decide) rfl (fun ls hl => ?_)
  exact w_5 n x2 x1 x_12 G _ _ _ h hw (lv_sub hl [2, 4, 1, 0] rfl)
def V_X1_areParameters_30 (N : Nat) (post : Int32 → SG → Prop) : Nat → Int32 → Int32 → Int32 → SG → Prop
  | 0, _, _, _, _ => False
  | n + 1, x2, x3, x4, G => ((x2 ≤ x4 → post (1 : Int32) G) ∧ (¬ x2 ≤ x4 → V_X2_car N x3 (G 2) (fun r_2 u_4 => ∀ g_3 : SG, g_3 = uo G 2 u_4 → V_X2_cdr N x3 (g_3 2) (fun r_5 u_7 => ∀ g_6 : SG, g_6 = uo g_3 2 u_7 → V_X10_tag r_2 (fun r_8 => ((¬ r_8 = (3 : Int32) → post (0 : Int32) g_6) ∧ (r_8 = (3 : Int32) → V_X1_indexIn N n r_5 r_2 g_6 (fun r_10 g_11 => ((r_10 < 0 → ∀ x_13 : Int32, x_13 = x4 + (1 : Int32) → V_X1_areParameters_30 N post n x2 r_5 x_13 g_11) ∧ (¬ r_10 < 0 → post (0 : Int32) g_11))))))))))
def V_X1_areParameters (N : Nat) (n : Nat) (x1 : Int32) (G : SG) (post : Int32 → SG → Prop) : Prop := V_X2_listLength N n x1 (G 2) (fun r_14 u_16 => ∀ g_15 : SG, g_15 = uo G 2 u_16 → ((x1 = (1 : Int32) → ((r_14 ≤ (4 : Int32) → ∀ x_19 : Int32, x_19 = (0 : Int32) → V_X1_areParameters_30 N post n r_14 x1 x_19 g_15) ∧ (¬ r_14 ≤ (4 : Int32) → post (0 : Int32) g_15))) ∧ (¬ x1 = (1 : Int32) → ((r_14 = 0 → post (0 : Int32) g_15) ∧ (¬ r_14 = 0 → ((r_14 ≤ (4 : Int32) → ∀ x_22 : Int32, x_22 = (0 : Int32) → V_X1_areParameters_30 N post n r_14 x1 x_22 g_15) ∧ (¬ r_14 ≤ (4 : Int32) → post (0 : Int32) g_15)))))))
abbrev RM_X1_areParameters : Room := { frames := 3, cells := 0, slots := 0, locals := 66 }
set_option maxHeartbeats 4000000 in
set_option maxRecDepth 100000 in
theorem m_X1_areParameters (l : Launch) (D : va_G) (cI cC cZ cJ : ClassId) (ad : Nat → Nat) (N : Nat) (ea : Nat → Nat → Nat) (n : Nat) (x1 : Int32) (G : SG) {post : Int32 → SG → Prop} (h : V_X1_areParameters N n x1 G post) : MetIE ea l yX1_areParameters cX1_areParameters 6 .boolean RM_X1_areParameters D (ty4 cI cC cZ cJ) (wT ad cI cC cZ cJ N G) [.ref (ad 19), .int x1] (fun u : SG => (wT ad cI cC cZ cJ N u)) post := by
  refine mkIE (by decide) (Nat.le_of_ble_eq_true rfl) ?_
  intro p e s m args below meth c A ls hC hr hlk hw hE hl
  have hx := hC.1
  have hb := hC.2.1
  have hl : lv_has ls 6 [(0, .ref (ad 19)), (1, .int x1)] := hl
  have w_30 : ∀ (n : Nat) (x2 : Int32) (x3 : Int32) (x4 : Int32) (G : SG) (H : Heap) (locs : List Loc) (ls : Array Slot), V_X1_areParameters_30 N post n x2 x3 x4 G → Wd D (ty4 cI cC cZ cJ) A s (wT ad cI cC cZ cJ N G) H locs → lv_has ls 6 [(0, .ref (ad 19)), (2, .int x2), (3, .int x3), (4, .int x4)] → W p l e RM_X1_areParameters s m args below meth c H locs 0 0 (QI below D (ty4 cI cC cZ cJ) A args s (fun u : SG => (wT ad cI cC cZ cJ N u)) post) (F0 m 30 ls []) := by
    intro n
    induction n with
    | zero =>
      intro x2 x3 x4 G H locs ls h
      exact False.elim h
    | succ n ih =>
      intro x2 x3 x4 G H locs ls h hw hl
      rw [V_X1_areParameters_30] at h
      refine lv_iload hx hb dX1_areParameters_30 (lv_at hl 3 rfl) ?_
      refine lv_iload_n hx hb dX1_areParameters_32 rfl (lv_at hl 1 rfl) ?_
      refine lv_icmp_ge (tgt := 82) hx hb dX1_areParameters_33 (by decide) (fun c_1 => ?_) (fun c_1 => ?_)
      · have h := h.1 c_1
        refine lv_iconst (v := (1 : Int32)) hx hb dX1_areParameters_82 (by decide) ?_
        exact rtI (wf := (fun u : SG => (wT ad cI cC cZ cJ N u))) G hC hr hlk hw (by decide) h dX1_areParameters_83
      · have h := h.2 c_1
        refine lv_aload_n hx hb dX1_areParameters_36 rfl (lv_at hl 0 rfl) ?_
        refine gt (v := .ref (ad 6)) kfX1_24 19 hC hw rfl rfl dX1_areParameters_37 ?_
        refine lv_iload_n hx hb dX1_areParameters_40 rfl (lv_at hl 2 rfl) ?_
        refine eI_wT_wHp_6 kmX1_62 hC hw (m_X2_car l D cI cC cZ cJ (fun j => ad (6 + j)) N x3 (G 2) h) rfl rfl ⟨by decide, by decide⟩ rfl hl.1 (Nat.le_of_ble_eq_true rfl) dX1_areParameters_41 ⟨Nat.zero_le _, Nat.zero_le _⟩ rfl ?_
        intro r_2 u_4 g_3 H locs eg_3 h hw
        have h := h g_3 eg_3
        refine lv_istore (lv' := [(5, .int r_2), (0, .ref (ad 19)), (2, .int x2), (3, .int x3), (4, .int x4)]) hx hb dX1_areParameters_44 hl (by decide) rfl (fun ls hl => ?_)
        refine lv_aload_n hx hb dX1_areParameters_46 rfl (lv_at hl 1 rfl) ?_
        refine gt (v := .ref (ad 6)) kfX1_24 19 hC hw rfl rfl dX1_areParameters_47 ?_
        refine lv_iload_n hx hb dX1_areParameters_50 rfl (lv_at hl 3 rfl) ?_
        refine eI_wT_wHp_6 kmX1_67 hC hw (m_X2_cdr l D cI cC cZ cJ (fun j => ad (6 + j)) N x3 (g_3 2) h) rfl rfl ⟨by decide, by decide⟩ rfl hl.1 (Nat.le_of_ble_eq_true rfl) dX1_areParameters_51 ⟨Nat.zero_le _, Nat.zero_le _⟩ rfl ?_
        intro r_5 u_7 g_6 H locs eg_6 h hw
        have h := h g_6 eg_6
        refine lv_istore_n (lv' := [(3, .int r_5), (5, .int r_2), (0, .ref (ad 19)), (2, .int x2), (4, .int x4)]) hx hb dX1_areParameters_54 rfl hl (by decide) rfl (fun ls hl => ?_)
        refine lv_iload hx hb dX1_areParameters_55 (lv_at hl 1 rfl) ?_
        refine cSI ksX1_49 hC (m_X10_tag l r_2 h) rfl rfl ⟨by decide, by decide⟩ rfl hl.1 (Nat.le_of_ble_eq_true rfl) dX1_areParameters_57 ⟨Nat.zero_le _, Nat.zero_le _⟩ rfl ?_
        intro r_8 h
        refine lv_iconst (v := (3 : Int32)) hx hb dX1_areParameters_60 (by decide) ?_
        refine lv_icmp_ne (tgt := 74) hx hb dX1_areParameters_61 (by decide) (fun c_9 => ?_) (fun c_9 => ?_)
        · have h := h.1 c_9
          refine lv_iconst (v := (0 : Int32)) hx hb dX1_areParameters_74 (by decide) ?_
          exact rtI (wf := (fun u : SG => (wT ad cI cC cZ cJ N u))) g_6 hC hr hlk hw (by decide) h dX1_areParameters_75
        · have h := h.2 c_9
          refine lv_aload_n hx hb dX1_areParameters_64 rfl (lv_at hl 2 rfl) ?_
          refine lv_iload_n hx hb dX1_areParameters_65 rfl (lv_at hl 0 rfl) ?_
          refine lv_iload hx hb dX1_areParameters_66 (lv_at hl 1 rfl) ?_
          refine cVIwe kmX1_149 hC hw hE (m_X1_indexIn l D cI cC cZ cJ ad N ea n r_5 r_2 g_6 h) rfl rfl ⟨by decide, by decide⟩ (recvW hw rfl 19 rfl) rfl hl.1 (Nat.le_of_ble_eq_true rfl) dX1_areParameters_68 ⟨Nat.zero_le _, Nat.zero_le _⟩ rfl ?_
          intro r_10 g_11 H locs h hw
          refine lv_if_lt (tgt := 76) hx hb dX1_areParameters_71 (by decide) (fun c_12 => ?_) (fun c_12 => ?_)
          · have h := h.1 c_12
            obtain ⟨x_13, ex_13⟩ : ∃ y : Int32, y = x4 + (1 : Int32) := ⟨_, rfl⟩
            have h := h x_13 ex_13
            refine lv_iinc (v := x_13) (lv' := [(4, .int x_13), (3, .int r_5), (5, .int r_2), (0, .ref (ad 19)), (2, .int x2)]) hx hb dX1_areParameters_76 hl (k := 4) rfl (by rw [ex_13]; rfl) (by decide) rfl (fun ls hl => ?_)
            refine lv_goto (tgt := 30) hx hb dX1_areParameters_79 (by decide) ?_
            exact ih x2 r_5 x_13 g_11 _ _ _ h hw (lv_sub hl [3, 4, 1, 0] rfl)
          · have h := h.2 c_12
            refine lv_iconst (v := (0 : Int32)) hx hb dX1_areParameters_74 (by decide) ?_
            exact rtI (wf := (fun u : SG => (wT ad cI cC cZ cJ N u))) g_11 hC hr hlk hw (by decide) h dX1_areParameters_75
  unfold V_X1_areParameters at h
  refine lv_aload_n hx hb dX1_areParameters_0 rfl (lv_at hl 0 rfl) ?_
  refine gt (v := .ref (ad 6)) kfX1_24 19 hC hw rfl rfl dX1_areParameters_1 ?_
  refine lv_iload_n hx hb dX1_areParameters_4 rfl (lv_at hl 1 rfl) ?_
  refine eI_wT_wHp_6 kmX1_84 hC hw (m_X2_listLength l D cI cC cZ cJ (fun j => ad (6 + j)) N n x1 (G 2) h) rfl rfl ⟨by decide, by decide⟩ rfl hl.1 (Nat.le_of_ble_eq_true rfl) dX1_areParameters_5 ⟨Nat.zero_le _, Nat.zero_le _⟩ rfl ?_
  intro r_14 u_16 g_15 H locs eg_15 h hw
  have h := h g_15 eg_15
  refine lv_istore_n (lv' := [(2, .int r_14), (0, .ref (ad 19)), (1, .int x1)]) hx hb dX1_areParameters_8 rfl hl (by decide) rfl (fun ls hl => ?_)
  refine lv_iload_n hx hb dX1_areParameters_9 rfl (lv_at hl 2 rfl) ?_
  refine lv_iconst (v := (1 : Int32)) hx hb dX1_areParameters_10 (by decide) ?_
  refine lv_icmp_eq (tgt := 18) hx hb dX1_areParameters_11 (by decide) (fun c_17 => ?_) (fun c_17 => ?_)
  · have h := h.1 c_17
    refine lv_iload_n hx hb dX1_areParameters_18 rfl (lv_at hl 0 rfl) ?_
    refine lv_iconst (v := (4 : Int32)) hx hb dX1_areParameters_19 (by decide) ?_
    refine lv_icmp_le (tgt := 25) hx hb dX1_areParameters_20 (by decide) (fun c_18 => ?_) (fun c_18 => ?_)
    · have h := h.1 c_18
      refine lv_iload_n hx hb dX1_areParameters_25 rfl (lv_at hl 2 rfl) ?_
      refine lv_istore_n (lv' := [(3, .int x1), (2, .int r_14), (0, .ref (ad 19)), (1, .int x1)]) hx hb dX1_areParameters_26 rfl hl (by decide) rfl (fun ls hl => ?_)
      refine lv_iconst (v := (0 : Int32)) hx hb dX1_areParameters_27 (by decide) ?_
      refine lv_topi (fun x_19 ex_19 => ?_)
      have h := h x_19 ex_19
      refine lv_istore (lv' := [(4, .int x_19), (3, .int x1), (2, .int r_14), (0, .ref (ad 19)), (1, .int x1)]) hx hb dX1_areParameters_28 hl (by decide) rfl (fun ls hl => ?_)
      exact w_30 n r_14 x1 x_19 g_15 _ _ _ h hw (lv_sub hl [3, 2, 1, 0] rfl)
    · have h := h.2 c_18
      refine lv_iconst (v := (0 : Int32)) hx hb dX1_areParameters_23 (by decide) ?_
      exact rtI (wf := (fun u : SG => (wT ad cI cC cZ cJ N u))) g_15 hC hr hlk hw (by decide) h dX1_areParameters_24
  · have h := h.2 c_17
    refine lv_iload_n hx hb dX1_areParameters_14 rfl (lv_at hl 0 rfl) ?_
    refine lv_if_eq (tgt := 23) hx hb dX1_areParameters_15 (by decide) (fun c_20 => ?_) (fun c_20 => ?_)
    · have h := h.1 c_20
      refine lv_iconst (v := (0 : Int32)) hx hb dX1_areParameters_23 (by decide) ?_
      exact rtI (wf := (fun u : SG => (wT ad cI cC cZ cJ N u))) g_15 hC hr hlk hw (by decide) h dX1_areParameters_24
    · have h := h.2 c_20
      refine lv_iload_n hx hb dX1_areParameters_18 rfl (lv_at hl 0 rfl) ?_
      refine lv_iconst (v := (4 : Int32)) hx hb dX1_areParameters_19 (by decide) ?_
      refine lv_icmp_le (tgt := 25) hx hb dX1_areParameters_20 (by decide) (fun c_21 => ?_) (fun c_21 => ?_)
      · have h := h.1 c_21
        refine lv_iload_n hx hb dX1_areParameters_25 rfl (lv_at hl 2 rfl) ?_
        refine lv_istore_n (lv' := [(3, .int x1), (2, .int r_14), (0, .ref (ad 19)), (1, .int x1)]) hx hb dX1_areParameters_26 rfl hl (by decide) rfl (fun ls hl => ?_)
        refine lv_iconst (v := (0 : Int32)) hx hb dX1_areParameters_27 (by decide) ?_
        refine lv_topi (fun x_22 ex_22 => ?_)
        have h := h x_22 ex_22
        refine lv_istore (lv' := [(4, .int x_22), (3, .int x1), (2, .int r_14), (0, .ref (ad 19)), (1, .int x1)]) hx hb dX1_areParameters_28 hl (by decide) rfl (fun ls hl => ?_)
        exact w_30 n r_14 x1 x_22 g_15 _ _ _ h hw (lv_sub hl [3, 2, 1, 0] rfl)
      · have h := h.2 c_21
        refine lv_iconst (v := (0 : Int32)) hx hb dX1_areParameters_23 (by decide) ?_
        exact rtI (wf := (fun u : SG => (wT ad cI cC cZ cJ N u))) g_15 hC hr hlk hw (by decide) h dX1_areParameters_24
def V_X1_emitFor_3 (N : Nat) (post : SG → Prop) : Nat → Int32 → Int32 → Int32 → Int32 → SG → Prop
  | 0, _, _, _, _, _ => False
  | n + 1, x1, x2, x3, x4, G => (((G 8 0 0) ≤ x4 → V_X10_held x1 (fun r_2 => V_X1_emit_ N x2 r_2 G (fun g_4 => post g_4))) ∧ (¬ (G 8 0 0) ≤ x4 → V_X8_peek 12 x4 (G 8) (fun r_5 u_7 => ∀ g_6 : SG, g_6 = uo G 8 u_7 → V_X1_indexIn N n r_5 x1 g_6 (fun r_8 g_9 => ((r_8 < 0 → ∀ x_11 : Int32, x_11 = x4 + (1 : Int32) → V_X1_emitFor_3 N post n x1 x2 x3 x_11 g_9) ∧ (¬ r_8 < 0 → V_X1_emit_ N x3 ((x4 * (4 : Int32)) + r_8) g_9 (fun g_13 => post g_13)))))))
def V_X1_emitFor (N : Nat) (n : Nat) (x1 : Int32) (x2 : Int32) (x3 : Int32) (G : SG) (post : SG → Prop) : Prop := ∀ x_14 : Int32, x_14 = (0 : Int32) → V_X1_emitFor_3 N post n x1 x2 x3 x_14 G
abbrev RM_X1_emitFor : Room := { frames := 3, cells := 0, slots := 0, locals := 66 }
set_option maxHeartbeats 4000000 in
set_option maxRecDepth 100000 in
theorem m_X1_emitFor (l : Launch) (D : va_G) (cI cC cZ cJ : ClassId) (ad : Nat → Nat) (N : Nat) (ea : Nat → Nat → Nat) (n : Nat) (x1 : Int32) (x2 : Int32) (x3 : Int32) (G : SG) {post : SG → Prop} (h : V_X1_emitFor N n x1 x2 x3 G post) : MetVE ea l yX1_emitFor cX1_emitFor 6 RM_X1_emitFor D (ty4 cI cC cZ cJ) (wT ad cI cC cZ cJ N G) [.ref (ad 19), .int x1, .int x2, .int x3] (fun u : SG => (wT ad cI cC cZ cJ N u)) post := by
  refine mkVE (by decide) (Nat.le_of_ble_eq_true rfl) ?_
  intro p e s m args below meth c A ls hC hr hlk hw hE hl
  have hx := hC.1
  have hb := hC.2.1
  have hl : lv_has ls 6 [(0, .ref (ad 19)), (1, .int x1), (2, .int x2), (3, .int x3)] := hl
  have w_3 : ∀ (n : Nat) (x1 : Int32) (x2 : Int32) (x3 : Int32) (x4 : Int32) (G : SG) (H : Heap) (locs : List Loc) (ls : Array Slot), V_X1_emitFor_3 N post n x1 x2 x3 x4 G → Wd D (ty4 cI cC cZ cJ) A s (wT ad cI cC cZ cJ N G) H locs → lv_has ls 6 [(0, .ref (ad 19)), (1, .int x1), (2, .int x2), (3, .int x3), (4, .int x4)] → W p l e RM_X1_emitFor s m args below meth c H locs 0 0 (QV below D (ty4 cI cC cZ cJ) A args s (fun u : SG => (wT ad cI cC cZ cJ N u)) post) (F0 m 3 ls []) := by
    intro n
    induction n with
    | zero =>
      intro x1 x2 x3 x4 G H locs ls h
      exact False.elim h
    | succ n ih =>
      intro x1 x2 x3 x4 G H locs ls h hw hl
      rw [V_X1_emitFor_3] at h
      refine lv_iload hx hb dX1_emitFor_3 (lv_at hl 4 rfl) ?_
      refine lv_aload_n hx hb dX1_emitFor_5 rfl (lv_at hl 0 rfl) ?_
      refine gt (v := .ref (ad 21)) kfX1_20 19 hC hw rfl rfl dX1_emitFor_6 ?_
      refine gt (v := .int (G 8 0 0)) kfX1_153 21 hC hw rfl rfl dX1_emitFor_9 ?_
      refine lv_icmp_ge (tgt := 55) hx hb dX1_emitFor_12 (by decide) (fun c_1 => ?_) (fun c_1 => ?_)
      · have h := h.1 c_1
        refine lv_aload_n hx hb dX1_emitFor_55 rfl (lv_at hl 0 rfl) ?_
        refine lv_iload_n hx hb dX1_emitFor_56 rfl (lv_at hl 2 rfl) ?_
        refine lv_iload_n hx hb dX1_emitFor_57 rfl (lv_at hl 1 rfl) ?_
        refine cSI ksX1_70 hC (m_X10_held l x1 h) rfl rfl ⟨by decide, by decide⟩ rfl hl.1 (Nat.le_of_ble_eq_true rfl) dX1_emitFor_58 ⟨Nat.zero_le _, Nat.zero_le _⟩ rfl ?_
        intro r_2 h
        refine cVVwe kmX1_46 hC hw hE (m_X1_emit_ l D cI cC cZ cJ ad N ea x2 r_2 G h) rfl rfl ⟨by decide, by decide⟩ (recvW hw rfl 19 rfl) rfl hl.1 (Nat.le_of_ble_eq_true rfl) dX1_emitFor_61 ⟨Nat.zero_le _, Nat.zero_le _⟩ rfl ?_
        intro g_4 H locs h hw
        exact rtV (wf := (fun u : SG => (wT ad cI cC cZ cJ N u))) g_4 hC hr hlk hw h dX1_emitFor_64
      · have h := h.2 c_1
        refine lv_aload_n hx hb dX1_emitFor_15 rfl (lv_at hl 0 rfl) ?_
        refine lv_aload_n hx hb dX1_emitFor_16 rfl (lv_at hl 0 rfl) ?_
        refine gt (v := .ref (ad 21)) kfX1_20 19 hC hw rfl rfl dX1_emitFor_17 ?_
        refine lv_iload hx hb dX1_emitFor_20 (lv_at hl 4 rfl) ?_
        refine eI_wT_wSt_21 kmX1_156 hC hw (m_X8_peek l D cI cC cZ cJ (fun j => ad (21 + j)) 12 x4 (G 8) h) rfl rfl ⟨by decide, by decide⟩ rfl hl.1 (Nat.le_of_ble_eq_true rfl) dX1_emitFor_22 ⟨Nat.zero_le _, Nat.zero_le _⟩ rfl ?_
        intro r_5 u_7 g_6 H locs eg_6 h hw
        have h := h g_6 eg_6
        refine lv_iload_n hx hb dX1_emitFor_25 rfl (lv_at hl 1 rfl) ?_
        refine cVIwe kmX1_149 hC hw hE (m_X1_indexIn l D cI cC cZ cJ ad N ea n r_5 x1 g_6 h) rfl rfl ⟨by decide, by decide⟩ (recvW hw rfl 19 rfl) rfl hl.1 (Nat.le_of_ble_eq_true rfl) dX1_emitFor_26 ⟨Nat.zero_le _, Nat.zero_le _⟩ rfl ?_
        intro r_8 g_9 H locs h hw
        refine lv_istore (lv' := [(5, .int r_8), (0, .ref (ad 19)), (1, .int x1), (2, .int x2), (3, .int x3), (4, .int x4)]) hx hb dX1_emitFor_29 hl (by decide) rfl (fun ls hl => ?_)
        refine lv_iload hx hb dX1_emitFor_31 (lv_at hl 0 rfl) ?_
        refine lv_if_lt (tgt := 49) hx hb dX1_emitFor_33 (by decide) (fun c_10 => ?_) (fun c_10 => ?_)
        · have h := h.1 c_10
          obtain ⟨x_11, ex_11⟩ : ∃ y : Int32, y = x4 + (1 : Int32) := ⟨_, rfl⟩
          have h := h x_11 ex_11
          refine lv_iinc (v := x_11) (lv' := [(4, .int x_11), (5, .int r_8), (0, .ref (ad 19)), (1, .int x1), (2, .int x2), (3, .int x3)]) hx hb dX1_emitFor_49 hl (k := 5) rfl (by rw [ex_11]; rfl) (by decide) rfl (fun ls hl => ?_)
          refine lv_goto (tgt := 3) hx hb dX1_emitFor_52 (by decide) ?_
          exact ih x1 x2 x3 x_11 g_9 _ _ _ h hw (lv_sub hl [2, 3, 4, 5, 0] rfl)
        · have h := h.2 c_10
          refine lv_aload_n hx hb dX1_emitFor_36 rfl (lv_at hl 1 rfl) ?_
          refine lv_iload_n hx hb dX1_emitFor_37 rfl (lv_at hl 4 rfl) ?_
          refine lv_iload hx hb dX1_emitFor_38 (lv_at hl 5 rfl) ?_
          refine lv_iconst (v := (4 : Int32)) hx hb dX1_emitFor_40 (by decide) ?_
          refine lv_imul hx hb dX1_emitFor_41 ?_
          refine lv_iload hx hb dX1_emitFor_42 (lv_at hl 0 rfl) ?_
          refine lv_iadd hx hb dX1_emitFor_44 ?_
          refine cVVwe kmX1_46 hC hw hE (m_X1_emit_ l D cI cC cZ cJ ad N ea x3 ((x4 * (4 : Int32)) + r_8) g_9 h) rfl rfl ⟨by decide, by decide⟩ (recvW hw rfl 19 rfl) rfl hl.1 (Nat.le_of_ble_eq_true rfl) dX1_emitFor_45 ⟨Nat.zero_le _, Nat.zero_le _⟩ rfl ?_
          intro g_13 H locs h hw
          exact rtV (wf := (fun u : SG => (wT ad cI cC cZ cJ N u))) g_13 hC hr hlk hw h dX1_emitFor_48
  unfold V_X1_emitFor at h
  refine lv_iconst (v := (0 : Int32)) hx hb dX1_emitFor_0 (by decide) ?_
  refine lv_topi (fun x_14 ex_14 => ?_)
  have h := h x_14 ex_14
  refine lv_istore (lv' := [(4, .int x_14), (0, .ref (ad 19)), (1, .int x1), (2, .int x2), (3, .int x3)]) hx hb dX1_emitFor_1 hl (by decide) rfl (fun ls hl => ?_)
  exact w_3 n x1 x2 x3 x_14 G _ _ _ h hw (lv_sub hl [1, 2, 3, 4, 0] rfl)
def V_X1_evaluations_15 (N : Nat) (E : Int32 → Int32 → SG → (Int32 → SG → Prop) → Prop) (post : Int32 → SG → Prop) : Nat → Int32 → Int32 → Int32 → Int32 → SG → Prop
  | 0, _, _, _, _, _ => False
  | n + 1, x2, x3, x4, x5, G => ((x3 ≤ x5 → post (1 : Int32) G) ∧ (¬ x3 ≤ x5 → V_X2_car N x4 (G 2) (fun r_2 u_4 => ∀ g_3 : SG, g_3 = uo G 2 u_4 → E r_2 x2 g_3 (fun r_5 g_6 => ((¬ r_5 = 0 → V_X2_cdr N x4 (g_6 2) (fun r_8 u_10 => ∀ g_9 : SG, g_9 = uo g_6 2 u_10 → ∀ x_11 : Int32, x_11 = x5 + (1 : Int32) → V_X1_evaluations_15 N E post n x2 x3 r_8 x_11 g_9)) ∧ (r_5 = 0 → post (0 : Int32) g_6))))))
def V_X1_evaluations (N : Nat) (n : Nat) (E : Int32 → Int32 → SG → (Int32 → SG → Prop) → Prop) (x1 : Int32) (x2 : Int32) (G : SG) (post : Int32 → SG → Prop) : Prop := V_X2_listLength N n x1 (G 2) (fun r_12 u_14 => ∀ g_13 : SG, g_13 = uo G 2 u_14 → ∀ x_15 : Int32, x_15 = (0 : Int32) → V_X1_evaluations_15 N E post n x2 r_12 x1 x_15 g_13)
abbrev RM_X1_evaluations (d : Nat) : Room := { frames := 8 * d + (10 + 1), cells := 0, slots := 0, locals := 200 * d + (300 + 22) }
set_option maxHeartbeats 4000000 in
set_option maxRecDepth 100000 in
theorem m_X1_evaluations (l : Launch) (D : va_G) (cI cC cZ cJ : ClassId) (ad : Nat → Nat) (N : Nat) (ea : Nat → Nat → Nat) (n : Nat) (d : Nat) (E : Int32 → Int32 → SG → (Int32 → SG → Prop) → Prop) (hrec : ∀ (a b : Int32) (G : SG) (post : Int32 → SG → Prop), E a b G post → MetIE ea l yX1_evaluation cX1_evaluation 3 .boolean (RM_X1_evaluation d) D (ty4 cI cC cZ cJ) (wT ad cI cC cZ cJ N G) [.ref (ad 19), .int a, .int b] (fun u : SG => (wT ad cI cC cZ cJ N u)) post) (x1 : Int32) (x2 : Int32) (G : SG) {post : Int32 → SG → Prop} (h : V_X1_evaluations N n E x1 x2 G post) : MetIE ea l yX1_evaluations cX1_evaluations 6 .boolean (RM_X1_evaluations d) D (ty4 cI cC cZ cJ) (wT ad cI cC cZ cJ N G) [.ref (ad 19), .int x1, .int x2] (fun u : SG => (wT ad cI cC cZ cJ N u)) post := by
  refine mkIE (by decide) (Nat.le_of_ble_eq_true rfl) ?_
  intro p e s m args below meth c A ls hC hr hlk hw hE hl
  have hx := hC.1
  have hb := hC.2.1
  have hl : lv_has ls 6 [(0, .ref (ad 19)), (1, .int x1), (2, .int x2)] := hl
  have w_15 : ∀ (n : Nat) (x2 : Int32) (x3 : Int32) (x4 : Int32) (x5 : Int32) (G : SG) (H : Heap) (locs : List Loc) (ls : Array Slot), V_X1_evaluations_15 N E post n x2 x3 x4 x5 G → Wd D (ty4 cI cC cZ cJ) A s (wT ad cI cC cZ cJ N G) H locs → lv_has ls 6 [(0, .ref (ad 19)), (2, .int x2), (3, .int x3), (4, .int x4), (5, .int x5)] → W p l e (RM_X1_evaluations d) s m args below meth c H locs 0 0 (QI below D (ty4 cI cC cZ cJ) A args s (fun u : SG => (wT ad cI cC cZ cJ N u)) post) (F0 m 15 ls []) := by
    intro n
    induction n with
    | zero =>
      intro x2 x3 x4 x5 G H locs ls h
      exact False.elim h
    | succ n ih =>
      intro x2 x3 x4 x5 G H locs ls h hw hl
      rw [V_X1_evaluations_15] at h
      refine lv_iload hx hb dX1_evaluations_15 (lv_at hl 4 rfl) ?_
      refine lv_iload_n hx hb dX1_evaluations_17 rfl (lv_at hl 2 rfl) ?_
      refine lv_icmp_ge (tgt := 57) hx hb dX1_evaluations_18 (by decide) (fun c_1 => ?_) (fun c_1 => ?_)
      · have h := h.1 c_1
        refine lv_iconst (v := (1 : Int32)) hx hb dX1_evaluations_57 (by decide) ?_
        exact rtI (wf := (fun u : SG => (wT ad cI cC cZ cJ N u))) G hC hr hlk hw (by decide) h dX1_evaluations_58
      · have h := h.2 c_1
        refine lv_aload_n hx hb dX1_evaluations_21 rfl (lv_at hl 0 rfl) ?_
        refine lv_aload_n hx hb dX1_evaluations_22 rfl (lv_at hl 0 rfl) ?_
        refine gt (v := .ref (ad 6)) kfX1_24 19 hC hw rfl rfl dX1_evaluations_23 ?_
        refine lv_iload hx hb dX1_evaluations_26 (lv_at hl 3 rfl) ?_
        refine eI_wT_wHp_6 kmX1_62 hC hw (m_X2_car l D cI cC cZ cJ (fun j => ad (6 + j)) N x4 (G 2) h) rfl rfl ⟨(show 1 + 1 ≤ 8 * d + (10 + 1) by omega), (show 8 + (2 + 11) + (21) ≤ 200 * d + (300 + 22) by omega)⟩ rfl hl.1 (Nat.le_of_ble_eq_true rfl) dX1_evaluations_28 ⟨Nat.zero_le _, Nat.zero_le _⟩ rfl ?_
        intro r_2 u_4 g_3 H locs eg_3 h hw
        have h := h g_3 eg_3
        refine lv_iload_n hx hb dX1_evaluations_31 rfl (lv_at hl 1 rfl) ?_
        refine cVIwe kmX1_39 hC hw hE (hrec r_2 x2 g_3 _ h) rfl rfl ⟨(show 8 * d + (10 + 0) + 1 ≤ 8 * d + (10 + 1) by omega), (show 8 + (3 + 11) + (200 * d + (300 + 0)) ≤ 200 * d + (300 + 22) by omega)⟩ (recvW hw rfl 19 rfl) rfl hl.1 (Nat.le_of_ble_eq_true rfl) dX1_evaluations_32 ⟨Nat.zero_le _, Nat.zero_le _⟩ rfl ?_
        intro r_5 g_6 H locs h hw
        refine lv_if_ne (tgt := 40) hx hb dX1_evaluations_35 (by decide) (fun c_7 => ?_) (fun c_7 => ?_)
        · have h := h.1 c_7
          refine lv_aload_n hx hb dX1_evaluations_40 rfl (lv_at hl 0 rfl) ?_
          refine gt (v := .ref (ad 6)) kfX1_24 19 hC hw rfl rfl dX1_evaluations_41 ?_
          refine lv_iload hx hb dX1_evaluations_44 (lv_at hl 3 rfl) ?_
          refine eI_wT_wHp_6 kmX1_67 hC hw (m_X2_cdr l D cI cC cZ cJ (fun j => ad (6 + j)) N x4 (g_6 2) h) rfl rfl ⟨(show 1 + 1 ≤ 8 * d + (10 + 1) by omega), (show 8 + (2 + 11) + (21) ≤ 200 * d + (300 + 22) by omega)⟩ rfl hl.1 (Nat.le_of_ble_eq_true rfl) dX1_evaluations_46 ⟨Nat.zero_le _, Nat.zero_le _⟩ rfl ?_
          intro r_8 u_10 g_9 H locs eg_9 h hw
          have h := h g_9 eg_9
          refine lv_istore (lv' := [(4, .int r_8), (0, .ref (ad 19)), (2, .int x2), (3, .int x3), (5, .int x5)]) hx hb dX1_evaluations_49 hl (by decide) rfl (fun ls hl => ?_)
          obtain ⟨x_11, ex_11⟩ : ∃ y : Int32, y = x5 + (1 : Int32) := ⟨_, rfl⟩
          have h := h x_11 ex_11
          refine lv_iinc (v := x_11) (lv' := [(5, .int x_11), (4, .int r_8), (0, .ref (ad 19)), (2, .int x2), (3, .int x3)]) hx hb dX1_evaluations_51 hl (k := 4) rfl (by rw [ex_11]; rfl) (by decide) rfl (fun ls hl => ?_)
          refine lv_goto (tgt := 15) hx hb dX1_evaluations_54 (by decide) ?_
          exact ih x2 x3 r_8 x_11 g_9 _ _ _ h hw (lv_sub hl [2, 3, 4, 1, 0] rfl)
        · have h := h.2 c_7
          refine lv_iconst (v := (0 : Int32)) hx hb dX1_evaluations_38 (by decide) ?_
          exact rtI (wf := (fun u : SG => (wT ad cI cC cZ cJ N u))) g_6 hC hr hlk hw (by decide) h dX1_evaluations_39
  unfold V_X1_evaluations at h
  refine lv_aload_n hx hb dX1_evaluations_0 rfl (lv_at hl 0 rfl) ?_
  refine gt (v := .ref (ad 6)) kfX1_24 19 hC hw rfl rfl dX1_evaluations_1 ?_
  refine lv_iload_n hx hb dX1_evaluations_4 rfl (lv_at hl 1 rfl) ?_
  refine eI_wT_wHp_6 kmX1_84 hC hw (m_X2_listLength l D cI cC cZ cJ (fun j => ad (6 + j)) N n x1 (G 2) h) rfl rfl ⟨(show 2 + 1 ≤ 8 * d + (10 + 1) by omega), (show 8 + (4 + 11) + (42) ≤ 200 * d + (300 + 22) by omega)⟩ rfl hl.1 (Nat.le_of_ble_eq_true rfl) dX1_evaluations_5 ⟨Nat.zero_le _, Nat.zero_le _⟩ rfl ?_
  intro r_12 u_14 g_13 H locs eg_13 h hw
  have h := h g_13 eg_13
  refine lv_istore_n (lv' := [(3, .int r_12), (0, .ref (ad 19)), (1, .int x1), (2, .int x2)]) hx hb dX1_evaluations_8 rfl hl (by decide) rfl (fun ls hl => ?_)
  refine lv_iload_n hx hb dX1_evaluations_9 rfl (lv_at hl 2 rfl) ?_
  refine lv_istore (lv' := [(4, .int x1), (3, .int r_12), (0, .ref (ad 19)), (1, .int x1), (2, .int x2)]) hx hb dX1_evaluations_10 hl (by decide) rfl (fun ls hl => ?_)
  refine lv_iconst (v := (0 : Int32)) hx hb dX1_evaluations_12 (by decide) ?_
  refine lv_topi (fun x_15 ex_15 => ?_)
  have h := h x_15 ex_15
  refine lv_istore (lv' := [(5, .int x_15), (4, .int x1), (3, .int r_12), (0, .ref (ad 19)), (1, .int x1), (2, .int x2)]) hx hb dX1_evaluations_13 hl (by decide) rfl (fun ls hl => ?_)
  exact w_15 n x2 r_12 x1 x_15 g_13 _ _ _ h hw (lv_sub hl [3, 5, 2, 1, 0] rfl)
def V_X1_body_42 (N : Nat) (E : Int32 → Int32 → SG → (Int32 → SG → Prop) → Prop) (K25 : Int32 → Int32 → Int32 → Int32 → SG → Prop) (post : Int32 → SG → Prop) (n : Nat) (x2 : Int32) (x3 : Int32) (x4 : Int32) (x5 : Int32) (G : SG) : Prop := V_X2_car N x4 (G 2) (fun r_1 u_3 => ∀ g_2 : SG, g_2 = uo G 2 u_3 → E r_1 x2 g_2 (fun r_4 g_5 => ((¬ r_4 = 0 → V_X2_cdr N x4 (g_5 2) (fun r_7 u_9 => ∀ g_8 : SG, g_8 = uo g_5 2 u_9 → ∀ x_10 : Int32, x_10 = x5 + (1 : Int32) → K25 x2 x3 r_7 x_10 g_8)) ∧ (r_4 = 0 → post (0 : Int32) g_5))))
def V_X1_body_25 (N : Nat) (E : Int32 → Int32 → SG → (Int32 → SG → Prop) → Prop) (post : Int32 → SG → Prop) : Nat → Int32 → Int32 → Int32 → Int32 → SG → Prop
  | 0, _, _, _, _, _ => False
  | n + 1, x2, x3, x4, x5, G => ((x3 ≤ x5 → post (1 : Int32) G) ∧ (¬ x3 ≤ x5 → ((x5 ≤ 0 → V_X1_body_42 N E (fun x2 x3 x4 x5 G => V_X1_body_25 N E post n x2 x3 x4 x5 G) post n x2 x3 x4 x5 G) ∧ (¬ x5 ≤ 0 → V_X1_emit N (7 : Int32) G (fun g_14 => V_X1_body_42 N E (fun x2 x3 x4 x5 G => V_X1_body_25 N E post n x2 x3 x4 x5 G) post n x2 x3 x4 x5 g_14)))))
def V_X1_body (N : Nat) (n : Nat) (E : Int32 → Int32 → SG → (Int32 → SG → Prop) → Prop) (x1 : Int32) (x2 : Int32) (G : SG) (post : Int32 → SG → Prop) : Prop := V_X2_listLength N n x1 (G 2) (fun r_15 u_17 => ∀ g_16 : SG, g_16 = uo G 2 u_17 → ((¬ r_15 = 0 → ∀ x_19 : Int32, x_19 = (0 : Int32) → V_X1_body_25 N E post n x2 r_15 x1 x_19 g_16) ∧ (r_15 = 0 → V_X1_emit_ N (2 : Int32) (1 : Int32) g_16 (fun g_21 => ∀ x_22 : Int32, x_22 = (0 : Int32) → V_X1_body_25 N E post n x2 r_15 x1 x_22 g_21))))
abbrev RM_X1_body (d : Nat) : Room := { frames := 8 * d + (10 + 1), cells := 0, slots := 0, locals := 200 * d + (300 + 22) }
set_option maxHeartbeats 4000000 in
set_option maxRecDepth 100000 in
theorem m_X1_body (l : Launch) (D : va_G) (cI cC cZ cJ : ClassId) (ad : Nat → Nat) (N : Nat) (ea : Nat → Nat → Nat) (n : Nat) (d : Nat) (E : Int32 → Int32 → SG → (Int32 → SG → Prop) → Prop) (hrec : ∀ (a b : Int32) (G : SG) (post : Int32 → SG → Prop), E a b G post → MetIE ea l yX1_evaluation cX1_evaluation 3 .boolean (RM_X1_evaluation d) D (ty4 cI cC cZ cJ) (wT ad cI cC cZ cJ N G) [.ref (ad 19), .int a, .int b] (fun u : SG => (wT ad cI cC cZ cJ N u)) post) (x1 : Int32) (x2 : Int32) (G : SG) {post : Int32 → SG → Prop} (h : V_X1_body N n E x1 x2 G post) : MetIE ea l yX1_body cX1_body 6 .boolean (RM_X1_body d) D (ty4 cI cC cZ cJ) (wT ad cI cC cZ cJ N G) [.ref (ad 19), .int x1, .int x2] (fun u : SG => (wT ad cI cC cZ cJ N u)) post := by
  refine mkIE (by decide) (Nat.le_of_ble_eq_true rfl) ?_
  intro p e s m args below meth c A ls hC hr hlk hw hE hl
  have hx := hC.1
  have hb := hC.2.1
  have hl : lv_has ls 6 [(0, .ref (ad 19)), (1, .int x1), (2, .int x2)] := hl
  have w_42 : ∀ (K25 : Int32 → Int32 → Int32 → Int32 → SG → Prop) (hK25 : ∀ (x2 : Int32) (x3 : Int32) (x4 : Int32) (x5 : Int32) (G : SG) (H : Heap) (locs : List Loc) (ls : Array Slot), K25 x2 x3 x4 x5 G → Wd D (ty4 cI cC cZ cJ) A s (wT ad cI cC cZ cJ N G) H locs → lv_has ls 6 [(0, .ref (ad 19)), (2, .int x2), (3, .int x3), (4, .int x4), (5, .int x5)] → W p l e (RM_X1_body d) s m args below meth c H locs 0 0 (QI below D (ty4 cI cC cZ cJ) A args s (fun u : SG => (wT ad cI cC cZ cJ N u)) post) (F0 m 25 ls [])) (n : Nat) (x2 : Int32) (x3 : Int32) (x4 : Int32) (x5 : Int32) (G : SG) (H : Heap) (locs : List Loc) (ls : Array Slot), V_X1_body_42 N E K25 post n x2 x3 x4 x5 G → Wd D (ty4 cI cC cZ cJ) A s (wT ad cI cC cZ cJ N G) H locs → lv_has ls 6 [(0, .ref (ad 19)), (2, .int x2), (3, .int x3), (4, .int x4), (5, .int x5)] → W p l e (RM_X1_body d) s m args below meth c H locs 0 0 (QI below D (ty4 cI cC cZ cJ) A args s (fun u : SG => (wT ad cI cC cZ cJ N u)) post) (F0 m 42 ls []) := by
    intro K25 hK25 n x2 x3 x4 x5 G H locs ls h hw hl
    unfold V_X1_body_42 at h
    refine lv_aload_n hx hb dX1_body_42 rfl (lv_at hl 0 rfl) ?_
    refine lv_aload_n hx hb dX1_body_43 rfl (lv_at hl 0 rfl) ?_
    refine gt (v := .ref (ad 6)) kfX1_24 19 hC hw rfl rfl dX1_body_44 ?_
    refine lv_iload hx hb dX1_body_47 (lv_at hl 3 rfl) ?_
    refine eI_wT_wHp_6 kmX1_62 hC hw (m_X2_car l D cI cC cZ cJ (fun j => ad (6 + j)) N x4 (G 2) h) rfl rfl ⟨(show 1 + 1 ≤ 8 * d + (10 + 1) by omega), (show 8 + (2 + 11) + (21) ≤ 200 * d + (300 + 22) by omega)⟩ rfl hl.1 (Nat.le_of_ble_eq_true rfl) dX1_body_49 ⟨Nat.zero_le _, Nat.zero_le _⟩ rfl ?_
    intro r_1 u_3 g_2 H locs eg_2 h hw
    have h := h g_2 eg_2
    refine lv_iload_n hx hb dX1_body_52 rfl (lv_at hl 1 rfl) ?_
    refine cVIwe kmX1_39 hC hw hE (hrec r_1 x2 g_2 _ h) rfl rfl ⟨(show 8 * d + (10 + 0) + 1 ≤ 8 * d + (10 + 1) by omega), (show 8 + (3 + 11) + (200 * d + (300 + 0)) ≤ 200 * d + (300 + 22) by omega)⟩ (recvW hw rfl 19 rfl) rfl hl.1 (Nat.le_of_ble_eq_true rfl) dX1_body_53 ⟨Nat.zero_le _, Nat.zero_le _⟩ rfl ?_
    intro r_4 g_5 H locs h hw
    refine lv_if_ne (tgt := 61) hx hb dX1_body_56 (by decide) (fun c_6 => ?_) (fun c_6 => ?_)
    · have h := h.1 c_6
      refine lv_aload_n hx hb dX1_body_61 rfl (lv_at hl 0 rfl) ?_
      refine gt (v := .ref (ad 6)) kfX1_24 19 hC hw rfl rfl dX1_body_62 ?_
      refine lv_iload hx hb dX1_body_65 (lv_at hl 3 rfl) ?_
      refine eI_wT_wHp_6 kmX1_67 hC hw (m_X2_cdr l D cI cC cZ cJ (fun j => ad (6 + j)) N x4 (g_5 2) h) rfl rfl ⟨(show 1 + 1 ≤ 8 * d + (10 + 1) by omega), (show 8 + (2 + 11) + (21) ≤ 200 * d + (300 + 22) by omega)⟩ rfl hl.1 (Nat.le_of_ble_eq_true rfl) dX1_body_67 ⟨Nat.zero_le _, Nat.zero_le _⟩ rfl ?_
      intro r_7 u_9 g_8 H locs eg_8 h hw
      have h := h g_8 eg_8
      refine lv_istore (lv' := [(4, .int r_7), (0, .ref (ad 19)), (2, .int x2), (3, .int x3), (5, .int x5)]) hx hb dX1_body_70 hl (by decide) rfl (fun ls hl => ?_)
      obtain ⟨x_10, ex_10⟩ : ∃ y : Int32, y = x5 + (1 : Int32) := ⟨_, rfl⟩
      have h := h x_10 ex_10
      refine lv_iinc (v := x_10) (lv' := [(5, .int x_10), (4, .int r_7), (0, .ref (ad 19)), (2, .int x2), (3, .int x3)]) hx hb dX1_body_72 hl (k := 4) rfl (by rw [ex_10]; rfl) (by decide) rfl (fun ls hl => ?_)
      refine lv_goto (tgt := 25) hx hb dX1_body_75 (by decide) ?_
      exact hK25 x2 x3 r_7 x_10 g_8 _ _ _ h hw (lv_sub hl [2, 3, 4, 1, 0] rfl)
    · have h := h.2 c_6
      refine lv_iconst (v := (0 : Int32)) hx hb dX1_body_59 (by decide) ?_
      exact rtI (wf := (fun u : SG => (wT ad cI cC cZ cJ N u))) g_5 hC hr hlk hw (by decide) h dX1_body_60
  have w_25 : ∀ (n : Nat) (x2 : Int32) (x3 : Int32) (x4 : Int32) (x5 : Int32) (G : SG) (H : Heap) (locs : List Loc) (ls : Array Slot), V_X1_body_25 N E post n x2 x3 x4 x5 G → Wd D (ty4 cI cC cZ cJ) A s (wT ad cI cC cZ cJ N G) H locs → lv_has ls 6 [(0, .ref (ad 19)), (2, .int x2), (3, .int x3), (4, .int x4), (5, .int x5)] → W p l e (RM_X1_body d) s m args below meth c H locs 0 0 (QI below D (ty4 cI cC cZ cJ) A args s (fun u : SG => (wT ad cI cC cZ cJ N u)) post) (F0 m 25 ls []) := by
    intro n
    induction n with
    | zero =>
      intro x2 x3 x4 x5 G H locs ls h
      exact False.elim h
    | succ n ih =>
      intro x2 x3 x4 x5 G H locs ls h hw hl
      rw [V_X1_body_25] at h
      refine lv_iload hx hb dX1_body_25 (lv_at hl 4 rfl) ?_
      refine lv_iload_n hx hb dX1_body_27 rfl (lv_at hl 2 rfl) ?_
      refine lv_icmp_ge (tgt := 78) hx hb dX1_body_28 (by decide) (fun c_11 => ?_) (fun c_11 => ?_)
      · have h := h.1 c_11
        refine lv_iconst (v := (1 : Int32)) hx hb dX1_body_78 (by decide) ?_
        exact rtI (wf := (fun u : SG => (wT ad cI cC cZ cJ N u))) G hC hr hlk hw (by decide) h dX1_body_79
      · have h := h.2 c_11
        refine lv_iload hx hb dX1_body_31 (lv_at hl 4 rfl) ?_
        refine lv_if_le (tgt := 42) hx hb dX1_body_33 (by decide) (fun c_12 => ?_) (fun c_12 => ?_)
        · have h := h.1 c_12
          exact w_42 _ ih n x2 x3 x4 x5 G _ _ _ h hw (lv_sub hl [0, 1, 2, 3, 4] rfl)
        · have h := h.2 c_12
          refine lv_aload_n hx hb dX1_body_36 rfl (lv_at hl 0 rfl) ?_
          refine lv_bipush (v := (7 : Int32)) hx hb dX1_body_37 (by decide) ?_
          refine cVVwe kmX1_43 hC hw hE (m_X1_emit l D cI cC cZ cJ ad N ea (7 : Int32) G h) rfl rfl ⟨(show 0 + 1 ≤ 8 * d + (10 + 1) by omega), (show 8 + (2 + 11) + (0) ≤ 200 * d + (300 + 22) by omega)⟩ (recvW hw rfl 19 rfl) rfl hl.1 (Nat.le_of_ble_eq_true rfl) dX1_body_39 ⟨Nat.zero_le _, Nat.zero_le _⟩ rfl ?_
          intro g_14 H locs h hw
          exact w_42 _ ih n x2 x3 x4 x5 g_14 _ _ _ h hw (lv_sub hl [0, 1, 2, 3, 4] rfl)
  unfold V_X1_body at h
  refine lv_aload_n hx hb dX1_body_0 rfl (lv_at hl 0 rfl) ?_
  refine gt (v := .ref (ad 6)) kfX1_24 19 hC hw rfl rfl dX1_body_1 ?_
  refine lv_iload_n hx hb dX1_body_4 rfl (lv_at hl 1 rfl) ?_
  refine eI_wT_wHp_6 kmX1_84 hC hw (m_X2_listLength l D cI cC cZ cJ (fun j => ad (6 + j)) N n x1 (G 2) h) rfl rfl ⟨(show 2 + 1 ≤ 8 * d + (10 + 1) by omega), (show 8 + (4 + 11) + (42) ≤ 200 * d + (300 + 22) by omega)⟩ rfl hl.1 (Nat.le_of_ble_eq_true rfl) dX1_body_5 ⟨Nat.zero_le _, Nat.zero_le _⟩ rfl ?_
  intro r_15 u_17 g_16 H locs eg_16 h hw
  have h := h g_16 eg_16
  refine lv_istore_n (lv' := [(3, .int r_15), (0, .ref (ad 19)), (1, .int x1), (2, .int x2)]) hx hb dX1_body_8 rfl hl (by decide) rfl (fun ls hl => ?_)
  refine lv_iload_n hx hb dX1_body_9 rfl (lv_at hl 0 rfl) ?_
  refine lv_if_ne (tgt := 19) hx hb dX1_body_10 (by decide) (fun c_18 => ?_) (fun c_18 => ?_)
  · have h := h.1 c_18
    refine lv_iload_n hx hb dX1_body_19 rfl (lv_at hl 2 rfl) ?_
    refine lv_istore (lv' := [(4, .int x1), (3, .int r_15), (0, .ref (ad 19)), (1, .int x1), (2, .int x2)]) hx hb dX1_body_20 hl (by decide) rfl (fun ls hl => ?_)
    refine lv_iconst (v := (0 : Int32)) hx hb dX1_body_22 (by decide) ?_
    refine lv_topi (fun x_19 ex_19 => ?_)
    have h := h x_19 ex_19
    refine lv_istore (lv' := [(5, .int x_19), (4, .int x1), (3, .int r_15), (0, .ref (ad 19)), (1, .int x1), (2, .int x2)]) hx hb dX1_body_23 hl (by decide) rfl (fun ls hl => ?_)
    exact w_25 n x2 r_15 x1 x_19 g_16 _ _ _ h hw (lv_sub hl [3, 5, 2, 1, 0] rfl)
  · have h := h.2 c_18
    refine lv_aload_n hx hb dX1_body_13 rfl (lv_at hl 1 rfl) ?_
    refine lv_iconst (v := (2 : Int32)) hx hb dX1_body_14 (by decide) ?_
    refine lv_iconst (v := (1 : Int32)) hx hb dX1_body_15 (by decide) ?_
    refine cVVwe kmX1_46 hC hw hE (m_X1_emit_ l D cI cC cZ cJ ad N ea (2 : Int32) (1 : Int32) g_16 h) rfl rfl ⟨(show 1 + 1 ≤ 8 * d + (10 + 1) by omega), (show 8 + (3 + 11) + (21) ≤ 200 * d + (300 + 22) by omega)⟩ (recvW hw rfl 19 rfl) rfl hl.1 (Nat.le_of_ble_eq_true rfl) dX1_body_16 ⟨Nat.zero_le _, Nat.zero_le _⟩ rfl ?_
    intro g_21 H locs h hw
    refine lv_iload_n hx hb dX1_body_19 rfl (lv_at hl 2 rfl) ?_
    refine lv_istore (lv' := [(4, .int x1), (3, .int r_15), (0, .ref (ad 19)), (1, .int x1), (2, .int x2)]) hx hb dX1_body_20 hl (by decide) rfl (fun ls hl => ?_)
    refine lv_iconst (v := (0 : Int32)) hx hb dX1_body_22 (by decide) ?_
    refine lv_topi (fun x_22 ex_22 => ?_)
    have h := h x_22 ex_22
    refine lv_istore (lv' := [(5, .int x_22), (4, .int x1), (3, .int r_15), (0, .ref (ad 19)), (1, .int x1), (2, .int x2)]) hx hb dX1_body_23 hl (by decide) rfl (fun ls hl => ?_)
    exact w_25 n x2 r_15 x1 x_22 g_21 _ _ _ h hw (lv_sub hl [3, 5, 2, 1, 0] rfl)
def V_X1_applying (N : Nat) (n : Nat) (E : Int32 → Int32 → SG → (Int32 → SG → Prop) → Prop) (x1 : Int32) (x2 : Int32) (x3 : Int32) (G : SG) (post : Int32 → SG → Prop) : Prop := V_X1_evaluations N n E x2 x3 G (fun r_1 g_2 => V_X1_emit_ N (15 : Int32) x1 g_2 (fun g_4 => V_X2_listLength N n x2 (g_4 2) (fun r_5 u_7 => ∀ g_6 : SG, g_6 = uo g_4 2 u_7 → V_X1_emit N r_5 g_6 (fun g_9 => ((r_1 = 0 ∨ r_1 = 1) ∧ post r_1 g_9)))))
abbrev RM_X1_applying (d : Nat) : Room := { frames := 8 * d + (10 + 2), cells := 0, slots := 0, locals := 200 * d + (300 + 47) }
set_option maxHeartbeats 4000000 in
set_option maxRecDepth 100000 in
theorem m_X1_applying (l : Launch) (D : va_G) (cI cC cZ cJ : ClassId) (ad : Nat → Nat) (N : Nat) (ea : Nat → Nat → Nat) (n : Nat) (d : Nat) (E : Int32 → Int32 → SG → (Int32 → SG → Prop) → Prop) (hrec : ∀ (a b : Int32) (G : SG) (post : Int32 → SG → Prop), E a b G post → MetIE ea l yX1_evaluation cX1_evaluation 3 .boolean (RM_X1_evaluation d) D (ty4 cI cC cZ cJ) (wT ad cI cC cZ cJ N G) [.ref (ad 19), .int a, .int b] (fun u : SG => (wT ad cI cC cZ cJ N u)) post) (x1 : Int32) (x2 : Int32) (x3 : Int32) (G : SG) {post : Int32 → SG → Prop} (h : V_X1_applying N n E x1 x2 x3 G post) : MetIE ea l yX1_applying cX1_applying 5 .boolean (RM_X1_applying d) D (ty4 cI cC cZ cJ) (wT ad cI cC cZ cJ N G) [.ref (ad 19), .int x1, .int x2, .int x3] (fun u : SG => (wT ad cI cC cZ cJ N u)) post := by
  refine mkIE (by decide) (Nat.le_of_ble_eq_true rfl) ?_
  intro p e s m args below meth c A ls hC hr hlk hw hE hl
  have hx := hC.1
  have hb := hC.2.1
  have hl : lv_has ls 5 [(0, .ref (ad 19)), (1, .int x1), (2, .int x2), (3, .int x3)] := hl
  unfold V_X1_applying at h
  refine lv_aload_n hx hb dX1_applying_0 rfl (lv_at hl 0 rfl) ?_
  refine lv_iload_n hx hb dX1_applying_1 rfl (lv_at hl 2 rfl) ?_
  refine lv_iload_n hx hb dX1_applying_2 rfl (lv_at hl 3 rfl) ?_
  refine cVIwe kmX1_130 hC hw hE (m_X1_evaluations l D cI cC cZ cJ ad N ea n d _ hrec x2 x3 G h) rfl rfl ⟨(show 8 * d + (10 + 1) + 1 ≤ 8 * d + (10 + 2) by omega), (show 8 + (6 + 11) + (200 * d + (300 + 22)) ≤ 200 * d + (300 + 47) by omega)⟩ (recvW hw rfl 19 rfl) rfl hl.1 (Nat.le_of_ble_eq_true rfl) dX1_applying_3 ⟨Nat.zero_le _, Nat.zero_le _⟩ rfl ?_
  intro r_1 g_2 H locs h hw
  refine lv_istore (lv' := [(4, .int r_1), (0, .ref (ad 19)), (1, .int x1), (2, .int x2), (3, .int x3)]) hx hb dX1_applying_6 hl (by decide) rfl (fun ls hl => ?_)
  refine lv_aload_n hx hb dX1_applying_8 rfl (lv_at hl 1 rfl) ?_
  refine lv_bipush (v := (15 : Int32)) hx hb dX1_applying_9 (by decide) ?_
  refine lv_iload_n hx hb dX1_applying_11 rfl (lv_at hl 2 rfl) ?_
  refine cVVwe kmX1_46 hC hw hE (m_X1_emit_ l D cI cC cZ cJ ad N ea (15 : Int32) x1 g_2 h) rfl rfl ⟨(show 1 + 1 ≤ 8 * d + (10 + 2) by omega), (show 8 + (3 + 11) + (21) ≤ 200 * d + (300 + 47) by omega)⟩ (recvW hw rfl 19 rfl) rfl hl.1 (Nat.le_of_ble_eq_true rfl) dX1_applying_12 ⟨Nat.zero_le _, Nat.zero_le _⟩ rfl ?_
  intro g_4 H locs h hw
  refine lv_aload_n hx hb dX1_applying_15 rfl (lv_at hl 1 rfl) ?_
  refine lv_aload_n hx hb dX1_applying_16 rfl (lv_at hl 1 rfl) ?_
  refine gt (v := .ref (ad 6)) kfX1_24 19 hC hw rfl rfl dX1_applying_17 ?_
  refine lv_iload_n hx hb dX1_applying_20 rfl (lv_at hl 3 rfl) ?_
  refine eI_wT_wHp_6 kmX1_84 hC hw (m_X2_listLength l D cI cC cZ cJ (fun j => ad (6 + j)) N n x2 (g_4 2) h) rfl rfl ⟨(show 2 + 1 ≤ 8 * d + (10 + 2) by omega), (show 8 + (4 + 11) + (42) ≤ 200 * d + (300 + 47) by omega)⟩ rfl hl.1 (Nat.le_of_ble_eq_true rfl) dX1_applying_21 ⟨Nat.zero_le _, Nat.zero_le _⟩ rfl ?_
  intro r_5 u_7 g_6 H locs eg_6 h hw
  have h := h g_6 eg_6
  refine cVVwe kmX1_43 hC hw hE (m_X1_emit l D cI cC cZ cJ ad N ea r_5 g_6 h) rfl rfl ⟨(show 0 + 1 ≤ 8 * d + (10 + 2) by omega), (show 8 + (2 + 11) + (0) ≤ 200 * d + (300 + 47) by omega)⟩ (recvW hw rfl 19 rfl) rfl hl.1 (Nat.le_of_ble_eq_true rfl) dX1_applying_24 ⟨Nat.zero_le _, Nat.zero_le _⟩ rfl ?_
  intro g_9 H locs h hw
  refine lv_iload hx hb dX1_applying_27 (lv_at hl 0 rfl) ?_
  exact rtI (wf := (fun u : SG => (wT ad cI cC cZ cJ N u))) g_9 hC hr hlk hw (nz h.1).1 h.2 dX1_applying_29
def V_X1_calling (N : Nat) (n : Nat) (E : Int32 → Int32 → SG → (Int32 → SG → Prop) → Prop) (x1 : Int32) (x2 : Int32) (G : SG) (post : Int32 → SG → Prop) : Prop := V_X1_evaluations N n E x1 x2 G (fun r_1 g_2 => V_X2_listLength N n x1 (g_2 2) (fun r_3 u_5 => ∀ g_4 : SG, g_4 = uo g_2 2 u_5 → V_X1_emit_ N (16 : Int32) (r_3 - (1 : Int32)) g_4 (fun g_7 => ((r_1 = 0 ∨ r_1 = 1) ∧ post r_1 g_7))))
abbrev RM_X1_calling (d : Nat) : Room := { frames := 8 * d + (10 + 2), cells := 0, slots := 0, locals := 200 * d + (300 + 47) }
set_option maxHeartbeats 4000000 in
set_option maxRecDepth 100000 in
theorem m_X1_calling (l : Launch) (D : va_G) (cI cC cZ cJ : ClassId) (ad : Nat → Nat) (N : Nat) (ea : Nat → Nat → Nat) (n : Nat) (d : Nat) (E : Int32 → Int32 → SG → (Int32 → SG → Prop) → Prop) (hrec : ∀ (a b : Int32) (G : SG) (post : Int32 → SG → Prop), E a b G post → MetIE ea l yX1_evaluation cX1_evaluation 3 .boolean (RM_X1_evaluation d) D (ty4 cI cC cZ cJ) (wT ad cI cC cZ cJ N G) [.ref (ad 19), .int a, .int b] (fun u : SG => (wT ad cI cC cZ cJ N u)) post) (x1 : Int32) (x2 : Int32) (G : SG) {post : Int32 → SG → Prop} (h : V_X1_calling N n E x1 x2 G post) : MetIE ea l yX1_calling cX1_calling 4 .boolean (RM_X1_calling d) D (ty4 cI cC cZ cJ) (wT ad cI cC cZ cJ N G) [.ref (ad 19), .int x1, .int x2] (fun u : SG => (wT ad cI cC cZ cJ N u)) post := by
  refine mkIE (by decide) (Nat.le_of_ble_eq_true rfl) ?_
  intro p e s m args below meth c A ls hC hr hlk hw hE hl
  have hx := hC.1
  have hb := hC.2.1
  have hl : lv_has ls 4 [(0, .ref (ad 19)), (1, .int x1), (2, .int x2)] := hl
  unfold V_X1_calling at h
  refine lv_aload_n hx hb dX1_calling_0 rfl (lv_at hl 0 rfl) ?_
  refine lv_iload_n hx hb dX1_calling_1 rfl (lv_at hl 1 rfl) ?_
  refine lv_iload_n hx hb dX1_calling_2 rfl (lv_at hl 2 rfl) ?_
  refine cVIwe kmX1_130 hC hw hE (m_X1_evaluations l D cI cC cZ cJ ad N ea n d _ hrec x1 x2 G h) rfl rfl ⟨(show 8 * d + (10 + 1) + 1 ≤ 8 * d + (10 + 2) by omega), (show 8 + (6 + 11) + (200 * d + (300 + 22)) ≤ 200 * d + (300 + 47) by omega)⟩ (recvW hw rfl 19 rfl) rfl hl.1 (Nat.le_of_ble_eq_true rfl) dX1_calling_3 ⟨Nat.zero_le _, Nat.zero_le _⟩ rfl ?_
  intro r_1 g_2 H locs h hw
  refine lv_istore_n (lv' := [(3, .int r_1), (0, .ref (ad 19)), (1, .int x1), (2, .int x2)]) hx hb dX1_calling_6 rfl hl (by decide) rfl (fun ls hl => ?_)
  refine lv_aload_n hx hb dX1_calling_7 rfl (lv_at hl 1 rfl) ?_
  refine lv_bipush (v := (16 : Int32)) hx hb dX1_calling_8 (by decide) ?_
  refine lv_aload_n hx hb dX1_calling_10 rfl (lv_at hl 1 rfl) ?_
  refine gt (v := .ref (ad 6)) kfX1_24 19 hC hw rfl rfl dX1_calling_11 ?_
  refine lv_iload_n hx hb dX1_calling_14 rfl (lv_at hl 2 rfl) ?_
  refine eI_wT_wHp_6 kmX1_84 hC hw (m_X2_listLength l D cI cC cZ cJ (fun j => ad (6 + j)) N n x1 (g_2 2) h) rfl rfl ⟨(show 2 + 1 ≤ 8 * d + (10 + 2) by omega), (show 8 + (4 + 11) + (42) ≤ 200 * d + (300 + 47) by omega)⟩ rfl hl.1 (Nat.le_of_ble_eq_true rfl) dX1_calling_15 ⟨Nat.zero_le _, Nat.zero_le _⟩ rfl ?_
  intro r_3 u_5 g_4 H locs eg_4 h hw
  have h := h g_4 eg_4
  refine lv_iconst (v := (1 : Int32)) hx hb dX1_calling_18 (by decide) ?_
  refine lv_isub hx hb dX1_calling_19 ?_
  refine cVVwe kmX1_46 hC hw hE (m_X1_emit_ l D cI cC cZ cJ ad N ea (16 : Int32) (r_3 - (1 : Int32)) g_4 h) rfl rfl ⟨(show 1 + 1 ≤ 8 * d + (10 + 2) by omega), (show 8 + (3 + 11) + (21) ≤ 200 * d + (300 + 47) by omega)⟩ (recvW hw rfl 19 rfl) rfl hl.1 (Nat.le_of_ble_eq_true rfl) dX1_calling_20 ⟨Nat.zero_le _, Nat.zero_le _⟩ rfl ?_
  intro g_7 H locs h hw
  refine lv_iload_n hx hb dX1_calling_23 rfl (lv_at hl 0 rfl) ?_
  exact rtI (wf := (fun u : SG => (wT ad cI cC cZ cJ N u))) g_7 hC hr hlk hw (nz h.1).1 h.2 dX1_calling_24
def V_X1_throwing (N : Nat) (n : Nat) (E : Int32 → Int32 → SG → (Int32 → SG → Prop) → Prop) (x1 : Int32) (x2 : Int32) (G : SG) (post : Int32 → SG → Prop) : Prop := V_X1_evaluations N n E x1 x2 G (fun r_1 g_2 => V_X1_emit N (14 : Int32) g_2 (fun g_4 => ((r_1 = 0 ∨ r_1 = 1) ∧ post r_1 g_4)))
abbrev RM_X1_throwing (d : Nat) : Room := { frames := 8 * d + (10 + 2), cells := 0, slots := 0, locals := 200 * d + (300 + 47) }
set_option maxHeartbeats 4000000 in
set_option maxRecDepth 100000 in
theorem m_X1_throwing (l : Launch) (D : va_G) (cI cC cZ cJ : ClassId) (ad : Nat → Nat) (N : Nat) (ea : Nat → Nat → Nat) (n : Nat) (d : Nat) (E : Int32 → Int32 → SG → (Int32 → SG → Prop) → Prop) (hrec : ∀ (a b : Int32) (G : SG) (post : Int32 → SG → Prop), E a b G post → MetIE ea l yX1_evaluation cX1_evaluation 3 .boolean (RM_X1_evaluation d) D (ty4 cI cC cZ cJ) (wT ad cI cC cZ cJ N G) [.ref (ad 19), .int a, .int b] (fun u : SG => (wT ad cI cC cZ cJ N u)) post) (x1 : Int32) (x2 : Int32) (G : SG) {post : Int32 → SG → Prop} (h : V_X1_throwing N n E x1 x2 G post) : MetIE ea l yX1_throwing cX1_throwing 4 .boolean (RM_X1_throwing d) D (ty4 cI cC cZ cJ) (wT ad cI cC cZ cJ N G) [.ref (ad 19), .int x1, .int x2] (fun u : SG => (wT ad cI cC cZ cJ N u)) post := by
  refine mkIE (by decide) (Nat.le_of_ble_eq_true rfl) ?_
  intro p e s m args below meth c A ls hC hr hlk hw hE hl
  have hx := hC.1
  have hb := hC.2.1
  have hl : lv_has ls 4 [(0, .ref (ad 19)), (1, .int x1), (2, .int x2)] := hl
  unfold V_X1_throwing at h
  refine lv_aload_n hx hb dX1_throwing_0 rfl (lv_at hl 0 rfl) ?_
  refine lv_iload_n hx hb dX1_throwing_1 rfl (lv_at hl 1 rfl) ?_
  refine lv_iload_n hx hb dX1_throwing_2 rfl (lv_at hl 2 rfl) ?_
  refine cVIwe kmX1_130 hC hw hE (m_X1_evaluations l D cI cC cZ cJ ad N ea n d _ hrec x1 x2 G h) rfl rfl ⟨(show 8 * d + (10 + 1) + 1 ≤ 8 * d + (10 + 2) by omega), (show 8 + (6 + 11) + (200 * d + (300 + 22)) ≤ 200 * d + (300 + 47) by omega)⟩ (recvW hw rfl 19 rfl) rfl hl.1 (Nat.le_of_ble_eq_true rfl) dX1_throwing_3 ⟨Nat.zero_le _, Nat.zero_le _⟩ rfl ?_
  intro r_1 g_2 H locs h hw
  refine lv_istore_n (lv' := [(3, .int r_1), (0, .ref (ad 19)), (1, .int x1), (2, .int x2)]) hx hb dX1_throwing_6 rfl hl (by decide) rfl (fun ls hl => ?_)
  refine lv_aload_n hx hb dX1_throwing_7 rfl (lv_at hl 1 rfl) ?_
  refine lv_bipush (v := (14 : Int32)) hx hb dX1_throwing_8 (by decide) ?_
  refine cVVwe kmX1_43 hC hw hE (m_X1_emit l D cI cC cZ cJ ad N ea (14 : Int32) g_2 h) rfl rfl ⟨(show 0 + 1 ≤ 8 * d + (10 + 2) by omega), (show 8 + (2 + 11) + (0) ≤ 200 * d + (300 + 47) by omega)⟩ (recvW hw rfl 19 rfl) rfl hl.1 (Nat.le_of_ble_eq_true rfl) dX1_throwing_10 ⟨Nat.zero_le _, Nat.zero_le _⟩ rfl ?_
  intro g_4 H locs h hw
  refine lv_iload_n hx hb dX1_throwing_13 rfl (lv_at hl 0 rfl) ?_
  exact rtI (wf := (fun u : SG => (wT ad cI cC cZ cJ N u))) g_4 hC hr hlk hw (nz h.1).1 h.2 dX1_throwing_14
def V_X1_choice (N : Nat) (n : Nat) (E : Int32 → Int32 → SG → (Int32 → SG → Prop) → Prop) (x1 : Int32) (x2 : Int32) (G : SG) (post : Int32 → SG → Prop) : Prop := V_X2_car N x1 (G 2) (fun r_1 u_3 => ∀ g_2 : SG, g_2 = uo G 2 u_3 → E r_1 x2 g_2 (fun r_4 g_5 => ((¬ r_4 = 0 → V_X1_leap N (9 : Int32) g_5 (fun r_7 g_8 => V_X2_cdr N x1 (g_8 2) (fun r_9 u_11 => ∀ g_10 : SG, g_10 = uo g_8 2 u_11 → V_X2_car N r_9 (g_10 2) (fun r_12 u_14 => ∀ g_13 : SG, g_13 = uo g_10 2 u_14 → E r_12 x2 g_13 (fun r_15 g_16 => ((¬ r_15 = 0 → V_X1_leap N (8 : Int32) g_16 (fun r_18 g_19 => V_X1_land N r_7 g_19 (fun g_21 => V_X2_cdr N r_9 (g_21 2) (fun r_22 u_24 => ∀ g_23 : SG, g_23 = uo g_21 2 u_24 → V_X1_body N n E r_22 x2 g_23 (fun r_25 g_26 => V_X1_land N r_18 g_26 (fun g_28 => ((r_25 = 0 ∨ r_25 = 1) ∧ post r_25 g_28))))))) ∧ (r_15 = 0 → post (0 : Int32) g_16))))))) ∧ (r_4 = 0 → post (0 : Int32) g_5))))
abbrev RM_X1_choice (d : Nat) : Room := { frames := 8 * d + (10 + 2), cells := 0, slots := 0, locals := 200 * d + (300 + 47) }
set_option maxHeartbeats 4000000 in
set_option maxRecDepth 100000 in
theorem m_X1_choice (l : Launch) (D : va_G) (cI cC cZ cJ : ClassId) (ad : Nat → Nat) (N : Nat) (ea : Nat → Nat → Nat) (n : Nat) (d : Nat) (E : Int32 → Int32 → SG → (Int32 → SG → Prop) → Prop) (hrec : ∀ (a b : Int32) (G : SG) (post : Int32 → SG → Prop), E a b G post → MetIE ea l yX1_evaluation cX1_evaluation 3 .boolean (RM_X1_evaluation d) D (ty4 cI cC cZ cJ) (wT ad cI cC cZ cJ N G) [.ref (ad 19), .int a, .int b] (fun u : SG => (wT ad cI cC cZ cJ N u)) post) (x1 : Int32) (x2 : Int32) (G : SG) {post : Int32 → SG → Prop} (h : V_X1_choice N n E x1 x2 G post) : MetIE ea l yX1_choice cX1_choice 7 .boolean (RM_X1_choice d) D (ty4 cI cC cZ cJ) (wT ad cI cC cZ cJ N G) [.ref (ad 19), .int x1, .int x2] (fun u : SG => (wT ad cI cC cZ cJ N u)) post := by
  refine mkIE (by decide) (Nat.le_of_ble_eq_true rfl) ?_
  intro p e s m args below meth c A ls hC hr hlk hw hE hl
  have hx := hC.1
  have hb := hC.2.1
  have hl : lv_has ls 7 [(0, .ref (ad 19)), (1, .int x1), (2, .int x2)] := hl
  unfold V_X1_choice at h
  refine lv_aload_n hx hb dX1_choice_0 rfl (lv_at hl 0 rfl) ?_
  refine lv_aload_n hx hb dX1_choice_1 rfl (lv_at hl 0 rfl) ?_
  refine gt (v := .ref (ad 6)) kfX1_24 19 hC hw rfl rfl dX1_choice_2 ?_
  refine lv_iload_n hx hb dX1_choice_5 rfl (lv_at hl 1 rfl) ?_
  refine eI_wT_wHp_6 kmX1_62 hC hw (m_X2_car l D cI cC cZ cJ (fun j => ad (6 + j)) N x1 (G 2) h) rfl rfl ⟨(show 1 + 1 ≤ 8 * d + (10 + 2) by omega), (show 8 + (2 + 11) + (21) ≤ 200 * d + (300 + 47) by omega)⟩ rfl hl.1 (Nat.le_of_ble_eq_true rfl) dX1_choice_6 ⟨Nat.zero_le _, Nat.zero_le _⟩ rfl ?_
  intro r_1 u_3 g_2 H locs eg_2 h hw
  have h := h g_2 eg_2
  refine lv_iload_n hx hb dX1_choice_9 rfl (lv_at hl 2 rfl) ?_
  refine cVIwe kmX1_39 hC hw hE (hrec r_1 x2 g_2 _ h) rfl rfl ⟨(show 8 * d + (10 + 0) + 1 ≤ 8 * d + (10 + 2) by omega), (show 8 + (3 + 11) + (200 * d + (300 + 0)) ≤ 200 * d + (300 + 47) by omega)⟩ (recvW hw rfl 19 rfl) rfl hl.1 (Nat.le_of_ble_eq_true rfl) dX1_choice_10 ⟨Nat.zero_le _, Nat.zero_le _⟩ rfl ?_
  intro r_4 g_5 H locs h hw
  refine lv_if_ne (tgt := 18) hx hb dX1_choice_13 (by decide) (fun c_6 => ?_) (fun c_6 => ?_)
  · have h := h.1 c_6
    refine lv_aload_n hx hb dX1_choice_18 rfl (lv_at hl 0 rfl) ?_
    refine lv_bipush (v := (9 : Int32)) hx hb dX1_choice_19 (by decide) ?_
    refine cVIwe kmX1_133 hC hw hE (m_X1_leap l D cI cC cZ cJ ad N ea (9 : Int32) g_5 h) rfl rfl ⟨(show 2 + 1 ≤ 8 * d + (10 + 2) by omega), (show 8 + (2 + 11) + (43) ≤ 200 * d + (300 + 47) by omega)⟩ (recvW hw rfl 19 rfl) rfl hl.1 (Nat.le_of_ble_eq_true rfl) dX1_choice_21 ⟨Nat.zero_le _, Nat.zero_le _⟩ rfl ?_
    intro r_7 g_8 H locs h hw
    refine lv_istore_n (lv' := [(3, .int r_7), (0, .ref (ad 19)), (1, .int x1), (2, .int x2)]) hx hb dX1_choice_24 rfl hl (by decide) rfl (fun ls hl => ?_)
    refine lv_aload_n hx hb dX1_choice_25 rfl (lv_at hl 1 rfl) ?_
    refine gt (v := .ref (ad 6)) kfX1_24 19 hC hw rfl rfl dX1_choice_26 ?_
    refine lv_iload_n hx hb dX1_choice_29 rfl (lv_at hl 2 rfl) ?_
    refine eI_wT_wHp_6 kmX1_67 hC hw (m_X2_cdr l D cI cC cZ cJ (fun j => ad (6 + j)) N x1 (g_8 2) h) rfl rfl ⟨(show 1 + 1 ≤ 8 * d + (10 + 2) by omega), (show 8 + (2 + 11) + (21) ≤ 200 * d + (300 + 47) by omega)⟩ rfl hl.1 (Nat.le_of_ble_eq_true rfl) dX1_choice_30 ⟨Nat.zero_le _, Nat.zero_le _⟩ rfl ?_
    intro r_9 u_11 g_10 H locs eg_10 h hw
    have h := h g_10 eg_10
    refine lv_istore (lv' := [(4, .int r_9), (3, .int r_7), (0, .ref (ad 19)), (1, .int x1), (2, .int x2)]) hx hb dX1_choice_33 hl (by decide) rfl (fun ls hl => ?_)
    refine lv_aload_n hx hb dX1_choice_35 rfl (lv_at hl 2 rfl) ?_
    refine lv_aload_n hx hb dX1_choice_36 rfl (lv_at hl 2 rfl) ?_
    refine gt (v := .ref (ad 6)) kfX1_24 19 hC hw rfl rfl dX1_choice_37 ?_
    refine lv_iload hx hb dX1_choice_40 (lv_at hl 0 rfl) ?_
    refine eI_wT_wHp_6 kmX1_62 hC hw (m_X2_car l D cI cC cZ cJ (fun j => ad (6 + j)) N r_9 (g_10 2) h) rfl rfl ⟨(show 1 + 1 ≤ 8 * d + (10 + 2) by omega), (show 8 + (2 + 11) + (21) ≤ 200 * d + (300 + 47) by omega)⟩ rfl hl.1 (Nat.le_of_ble_eq_true rfl) dX1_choice_42 ⟨Nat.zero_le _, Nat.zero_le _⟩ rfl ?_
    intro r_12 u_14 g_13 H locs eg_13 h hw
    have h := h g_13 eg_13
    refine lv_iload_n hx hb dX1_choice_45 rfl (lv_at hl 4 rfl) ?_
    refine cVIwe kmX1_39 hC hw hE (hrec r_12 x2 g_13 _ h) rfl rfl ⟨(show 8 * d + (10 + 0) + 1 ≤ 8 * d + (10 + 2) by omega), (show 8 + (3 + 11) + (200 * d + (300 + 0)) ≤ 200 * d + (300 + 47) by omega)⟩ (recvW hw rfl 19 rfl) rfl hl.1 (Nat.le_of_ble_eq_true rfl) dX1_choice_46 ⟨Nat.zero_le _, Nat.zero_le _⟩ rfl ?_
    intro r_15 g_16 H locs h hw
    refine lv_if_ne (tgt := 54) hx hb dX1_choice_49 (by decide) (fun c_17 => ?_) (fun c_17 => ?_)
    · have h := h.1 c_17
      refine lv_aload_n hx hb dX1_choice_54 rfl (lv_at hl 2 rfl) ?_
      refine lv_bipush (v := (8 : Int32)) hx hb dX1_choice_55 (by decide) ?_
      refine cVIwe kmX1_133 hC hw hE (m_X1_leap l D cI cC cZ cJ ad N ea (8 : Int32) g_16 h) rfl rfl ⟨(show 2 + 1 ≤ 8 * d + (10 + 2) by omega), (show 8 + (2 + 11) + (43) ≤ 200 * d + (300 + 47) by omega)⟩ (recvW hw rfl 19 rfl) rfl hl.1 (Nat.le_of_ble_eq_true rfl) dX1_choice_57 ⟨Nat.zero_le _, Nat.zero_le _⟩ rfl ?_
      intro r_18 g_19 H locs h hw
      refine lv_istore (lv' := [(5, .int r_18), (4, .int r_9), (3, .int r_7), (0, .ref (ad 19)), (1, .int x1), (2, .int x2)]) hx hb dX1_choice_60 hl (by decide) rfl (fun ls hl => ?_)
      refine lv_aload_n hx hb dX1_choice_62 rfl (lv_at hl 3 rfl) ?_
      refine lv_iload_n hx hb dX1_choice_63 rfl (lv_at hl 2 rfl) ?_
      refine cVVwe kmX1_136 hC hw hE (m_X1_land l D cI cC cZ cJ ad N ea r_7 g_19 h) rfl rfl ⟨(show 0 + 1 ≤ 8 * d + (10 + 2) by omega), (show 8 + (2 + 11) + (0) ≤ 200 * d + (300 + 47) by omega)⟩ (recvW hw rfl 19 rfl) rfl hl.1 (Nat.le_of_ble_eq_true rfl) dX1_choice_64 ⟨Nat.zero_le _, Nat.zero_le _⟩ rfl ?_
      intro g_21 H locs h hw
      refine lv_aload_n hx hb dX1_choice_67 rfl (lv_at hl 3 rfl) ?_
      refine lv_aload_n hx hb dX1_choice_68 rfl (lv_at hl 3 rfl) ?_
      refine gt (v := .ref (ad 6)) kfX1_24 19 hC hw rfl rfl dX1_choice_69 ?_
      refine lv_iload hx hb dX1_choice_72 (lv_at hl 1 rfl) ?_
      refine eI_wT_wHp_6 kmX1_67 hC hw (m_X2_cdr l D cI cC cZ cJ (fun j => ad (6 + j)) N r_9 (g_21 2) h) rfl rfl ⟨(show 1 + 1 ≤ 8 * d + (10 + 2) by omega), (show 8 + (2 + 11) + (21) ≤ 200 * d + (300 + 47) by omega)⟩ rfl hl.1 (Nat.le_of_ble_eq_true rfl) dX1_choice_74 ⟨Nat.zero_le _, Nat.zero_le _⟩ rfl ?_
      intro r_22 u_24 g_23 H locs eg_23 h hw
      have h := h g_23 eg_23
      refine lv_iload_n hx hb dX1_choice_77 rfl (lv_at hl 5 rfl) ?_
      refine cVIwe kmX1_105 hC hw hE (m_X1_body l D cI cC cZ cJ ad N ea n d _ hrec r_22 x2 g_23 h) rfl rfl ⟨(show 8 * d + (10 + 1) + 1 ≤ 8 * d + (10 + 2) by omega), (show 8 + (6 + 11) + (200 * d + (300 + 22)) ≤ 200 * d + (300 + 47) by omega)⟩ (recvW hw rfl 19 rfl) rfl hl.1 (Nat.le_of_ble_eq_true rfl) dX1_choice_78 ⟨Nat.zero_le _, Nat.zero_le _⟩ rfl ?_
      intro r_25 g_26 H locs h hw
      refine lv_istore (lv' := [(6, .int r_25), (5, .int r_18), (4, .int r_9), (3, .int r_7), (0, .ref (ad 19)), (1, .int x1), (2, .int x2)]) hx hb dX1_choice_81 hl (by decide) rfl (fun ls hl => ?_)
      refine lv_aload_n hx hb dX1_choice_83 rfl (lv_at hl 4 rfl) ?_
      refine lv_iload hx hb dX1_choice_84 (lv_at hl 1 rfl) ?_
      refine cVVwe kmX1_136 hC hw hE (m_X1_land l D cI cC cZ cJ ad N ea r_18 g_26 h) rfl rfl ⟨(show 0 + 1 ≤ 8 * d + (10 + 2) by omega), (show 8 + (2 + 11) + (0) ≤ 200 * d + (300 + 47) by omega)⟩ (recvW hw rfl 19 rfl) rfl hl.1 (Nat.le_of_ble_eq_true rfl) dX1_choice_86 ⟨Nat.zero_le _, Nat.zero_le _⟩ rfl ?_
      intro g_28 H locs h hw
      refine lv_iload hx hb dX1_choice_89 (lv_at hl 0 rfl) ?_
      exact rtI (wf := (fun u : SG => (wT ad cI cC cZ cJ N u))) g_28 hC hr hlk hw (nz h.1).1 h.2 dX1_choice_91
    · have h := h.2 c_17
      refine lv_iconst (v := (0 : Int32)) hx hb dX1_choice_52 (by decide) ?_
      exact rtI (wf := (fun u : SG => (wT ad cI cC cZ cJ N u))) g_16 hC hr hlk hw (by decide) h dX1_choice_53
  · have h := h.2 c_6
    refine lv_iconst (v := (0 : Int32)) hx hb dX1_choice_16 (by decide) ?_
    exact rtI (wf := (fun u : SG => (wT ad cI cC cZ cJ N u))) g_5 hC hr hlk hw (by decide) h dX1_choice_17
def V_X1_setting (N : Nat) (n : Nat) (E : Int32 → Int32 → SG → (Int32 → SG → Prop) → Prop) (x1 : Int32) (x2 : Int32) (G : SG) (post : Int32 → SG → Prop) : Prop := V_X2_car N x1 (G 2) (fun r_1 u_3 => ∀ g_2 : SG, g_2 = uo G 2 u_3 → V_X10_tag r_1 (fun r_4 => ((¬ r_4 = (3 : Int32) → post (0 : Int32) g_2) ∧ (r_4 = (3 : Int32) → V_X2_cdr N x1 (g_2 2) (fun r_6 u_8 => ∀ g_7 : SG, g_7 = uo g_2 2 u_8 → V_X2_car N r_6 (g_7 2) (fun r_9 u_11 => ∀ g_10 : SG, g_10 = uo g_7 2 u_11 → E r_9 x2 g_10 (fun r_12 g_13 => ((¬ r_12 = 0 → V_X1_emitFor N n r_1 (4 : Int32) (6 : Int32) g_13 (fun g_16 => post (1 : Int32) g_16)) ∧ (r_12 = 0 → post (0 : Int32) g_13)))))))))
abbrev RM_X1_setting (d : Nat) : Room := { frames := 8 * d + (10 + 1), cells := 0, slots := 0, locals := 200 * d + (300 + 22) }
set_option maxHeartbeats 4000000 in
set_option maxRecDepth 100000 in
theorem m_X1_setting (l : Launch) (D : va_G) (cI cC cZ cJ : ClassId) (ad : Nat → Nat) (N : Nat) (ea : Nat → Nat → Nat) (n : Nat) (d : Nat) (E : Int32 → Int32 → SG → (Int32 → SG → Prop) → Prop) (hrec : ∀ (a b : Int32) (G : SG) (post : Int32 → SG → Prop), E a b G post → MetIE ea l yX1_evaluation cX1_evaluation 3 .boolean (RM_X1_evaluation d) D (ty4 cI cC cZ cJ) (wT ad cI cC cZ cJ N G) [.ref (ad 19), .int a, .int b] (fun u : SG => (wT ad cI cC cZ cJ N u)) post) (x1 : Int32) (x2 : Int32) (G : SG) {post : Int32 → SG → Prop} (h : V_X1_setting N n E x1 x2 G post) : MetIE ea l yX1_setting cX1_setting 4 .boolean (RM_X1_setting d) D (ty4 cI cC cZ cJ) (wT ad cI cC cZ cJ N G) [.ref (ad 19), .int x1, .int x2] (fun u : SG => (wT ad cI cC cZ cJ N u)) post := by
  refine mkIE (by decide) (Nat.le_of_ble_eq_true rfl) ?_
  intro p e s m args below meth c A ls hC hr hlk hw hE hl
  have hx := hC.1
  have hb := hC.2.1
  have hl : lv_has ls 4 [(0, .ref (ad 19)), (1, .int x1), (2, .int x2)] := hl
  unfold V_X1_setting at h
  refine lv_aload_n hx hb dX1_setting_0 rfl (lv_at hl 0 rfl) ?_
  refine gt (v := .ref (ad 6)) kfX1_24 19 hC hw rfl rfl dX1_setting_1 ?_
  refine lv_iload_n hx hb dX1_setting_4 rfl (lv_at hl 1 rfl) ?_
  refine eI_wT_wHp_6 kmX1_62 hC hw (m_X2_car l D cI cC cZ cJ (fun j => ad (6 + j)) N x1 (G 2) h) rfl rfl ⟨(show 1 + 1 ≤ 8 * d + (10 + 1) by omega), (show 8 + (2 + 11) + (21) ≤ 200 * d + (300 + 22) by omega)⟩ rfl hl.1 (Nat.le_of_ble_eq_true rfl) dX1_setting_5 ⟨Nat.zero_le _, Nat.zero_le _⟩ rfl ?_
  intro r_1 u_3 g_2 H locs eg_2 h hw
  have h := h g_2 eg_2
  refine lv_istore_n (lv' := [(3, .int r_1), (0, .ref (ad 19)), (1, .int x1), (2, .int x2)]) hx hb dX1_setting_8 rfl hl (by decide) rfl (fun ls hl => ?_)
  refine lv_iload_n hx hb dX1_setting_9 rfl (lv_at hl 0 rfl) ?_
  refine cSI ksX1_49 hC (m_X10_tag l r_1 h) rfl rfl ⟨(show 0 + 1 ≤ 8 * d + (10 + 1) by omega), (show 8 + (1 + 11) + (0) ≤ 200 * d + (300 + 22) by omega)⟩ rfl hl.1 (Nat.le_of_ble_eq_true rfl) dX1_setting_10 ⟨Nat.zero_le _, Nat.zero_le _⟩ rfl ?_
  intro r_4 h
  refine lv_iconst (v := (3 : Int32)) hx hb dX1_setting_13 (by decide) ?_
  refine lv_icmp_ne (tgt := 40) hx hb dX1_setting_14 (by decide) (fun c_5 => ?_) (fun c_5 => ?_)
  · have h := h.1 c_5
    refine lv_iconst (v := (0 : Int32)) hx hb dX1_setting_40 (by decide) ?_
    exact rtI (wf := (fun u : SG => (wT ad cI cC cZ cJ N u))) g_2 hC hr hlk hw (by decide) h dX1_setting_41
  · have h := h.2 c_5
    refine lv_aload_n hx hb dX1_setting_17 rfl (lv_at hl 1 rfl) ?_
    refine lv_aload_n hx hb dX1_setting_18 rfl (lv_at hl 1 rfl) ?_
    refine gt (v := .ref (ad 6)) kfX1_24 19 hC hw rfl rfl dX1_setting_19 ?_
    refine lv_aload_n hx hb dX1_setting_22 rfl (lv_at hl 1 rfl) ?_
    refine gt (v := .ref (ad 6)) kfX1_24 19 hC hw rfl rfl dX1_setting_23 ?_
    refine lv_iload_n hx hb dX1_setting_26 rfl (lv_at hl 2 rfl) ?_
    refine eI_wT_wHp_6 kmX1_67 hC hw (m_X2_cdr l D cI cC cZ cJ (fun j => ad (6 + j)) N x1 (g_2 2) h) rfl rfl ⟨(show 1 + 1 ≤ 8 * d + (10 + 1) by omega), (show 8 + (2 + 11) + (21) ≤ 200 * d + (300 + 22) by omega)⟩ rfl hl.1 (Nat.le_of_ble_eq_true rfl) dX1_setting_27 ⟨Nat.zero_le _, Nat.zero_le _⟩ rfl ?_
    intro r_6 u_8 g_7 H locs eg_7 h hw
    have h := h g_7 eg_7
    refine eI_wT_wHp_6 kmX1_62 hC hw (m_X2_car l D cI cC cZ cJ (fun j => ad (6 + j)) N r_6 (g_7 2) h) rfl rfl ⟨(show 1 + 1 ≤ 8 * d + (10 + 1) by omega), (show 8 + (2 + 11) + (21) ≤ 200 * d + (300 + 22) by omega)⟩ rfl hl.1 (Nat.le_of_ble_eq_true rfl) dX1_setting_30 ⟨Nat.zero_le _, Nat.zero_le _⟩ rfl ?_
    intro r_9 u_11 g_10 H locs eg_10 h hw
    have h := h g_10 eg_10
    refine lv_iload_n hx hb dX1_setting_33 rfl (lv_at hl 3 rfl) ?_
    refine cVIwe kmX1_39 hC hw hE (hrec r_9 x2 g_10 _ h) rfl rfl ⟨(show 8 * d + (10 + 0) + 1 ≤ 8 * d + (10 + 1) by omega), (show 8 + (3 + 11) + (200 * d + (300 + 0)) ≤ 200 * d + (300 + 22) by omega)⟩ (recvW hw rfl 19 rfl) rfl hl.1 (Nat.le_of_ble_eq_true rfl) dX1_setting_34 ⟨Nat.zero_le _, Nat.zero_le _⟩ rfl ?_
    intro r_12 g_13 H locs h hw
    refine lv_if_ne (tgt := 42) hx hb dX1_setting_37 (by decide) (fun c_14 => ?_) (fun c_14 => ?_)
    · have h := h.1 c_14
      refine lv_aload_n hx hb dX1_setting_42 rfl (lv_at hl 1 rfl) ?_
      refine lv_iload_n hx hb dX1_setting_43 rfl (lv_at hl 0 rfl) ?_
      refine lv_iconst (v := (4 : Int32)) hx hb dX1_setting_44 (by decide) ?_
      refine lv_bipush (v := (6 : Int32)) hx hb dX1_setting_45 (by decide) ?_
      refine cVVwe kmX1_58 hC hw hE (m_X1_emitFor l D cI cC cZ cJ ad N ea n r_1 (4 : Int32) (6 : Int32) g_13 h) rfl rfl ⟨(show 3 + 1 ≤ 8 * d + (10 + 1) by omega), (show 8 + (6 + 11) + (66) ≤ 200 * d + (300 + 22) by omega)⟩ (recvW hw rfl 19 rfl) rfl hl.1 (Nat.le_of_ble_eq_true rfl) dX1_setting_47 ⟨Nat.zero_le _, Nat.zero_le _⟩ rfl ?_
      intro g_16 H locs h hw
      refine lv_iconst (v := (1 : Int32)) hx hb dX1_setting_50 (by decide) ?_
      exact rtI (wf := (fun u : SG => (wT ad cI cC cZ cJ N u))) g_16 hC hr hlk hw (by decide) h dX1_setting_51
    · have h := h.2 c_14
      refine lv_iconst (v := (0 : Int32)) hx hb dX1_setting_40 (by decide) ?_
      exact rtI (wf := (fun u : SG => (wT ad cI cC cZ cJ N u))) g_13 hC hr hlk hw (by decide) h dX1_setting_41
def V_X1_loop (N : Nat) (n : Nat) (E : Int32 → Int32 → SG → (Int32 → SG → Prop) → Prop) (x1 : Int32) (x2 : Int32) (G : SG) (post : Int32 → SG → Prop) : Prop := ∀ x_1 : Int32, x_1 = (G 7 0 0) → V_X2_car N x1 (G 2) (fun r_2 u_4 => ∀ g_3 : SG, g_3 = uo G 2 u_4 → E r_2 x2 g_3 (fun r_5 g_6 => ((¬ r_5 = 0 → V_X1_leap N (9 : Int32) g_6 (fun r_8 g_9 => V_X2_cdr N x1 (g_9 2) (fun r_10 u_12 => ∀ g_11 : SG, g_11 = uo g_9 2 u_12 → V_X1_body N n E r_10 x2 g_11 (fun r_13 g_14 => V_X1_emit N (7 : Int32) g_14 (fun g_16 => V_X1_emit_ N (8 : Int32) x_1 g_16 (fun g_18 => V_X1_land N r_8 g_18 (fun g_20 => V_X1_emit_ N (2 : Int32) (1 : Int32) g_20 (fun g_22 => ((r_13 = 0 ∨ r_13 = 1) ∧ post r_13 g_22))))))))) ∧ (r_5 = 0 → post (0 : Int32) g_6))))
abbrev RM_X1_loop (d : Nat) : Room := { frames := 8 * d + (10 + 2), cells := 0, slots := 0, locals := 200 * d + (300 + 47) }
set_option maxHeartbeats 4000000 in
set_option maxRecDepth 100000 in
theorem m_X1_loop (l : Launch) (D : va_G) (cI cC cZ cJ : ClassId) (ad : Nat → Nat) (N : Nat) (ea : Nat → Nat → Nat) (n : Nat) (d : Nat) (E : Int32 → Int32 → SG → (Int32 → SG → Prop) → Prop) (hrec : ∀ (a b : Int32) (G : SG) (post : Int32 → SG → Prop), E a b G post → MetIE ea l yX1_evaluation cX1_evaluation 3 .boolean (RM_X1_evaluation d) D (ty4 cI cC cZ cJ) (wT ad cI cC cZ cJ N G) [.ref (ad 19), .int a, .int b] (fun u : SG => (wT ad cI cC cZ cJ N u)) post) (x1 : Int32) (x2 : Int32) (G : SG) {post : Int32 → SG → Prop} (h : V_X1_loop N n E x1 x2 G post) : MetIE ea l yX1_loop cX1_loop 6 .boolean (RM_X1_loop d) D (ty4 cI cC cZ cJ) (wT ad cI cC cZ cJ N G) [.ref (ad 19), .int x1, .int x2] (fun u : SG => (wT ad cI cC cZ cJ N u)) post := by
  refine mkIE (by decide) (Nat.le_of_ble_eq_true rfl) ?_
  intro p e s m args below meth c A ls hC hr hlk hw hE hl
  have hx := hC.1
  have hb := hC.2.1
  have hl : lv_has ls 6 [(0, .ref (ad 19)), (1, .int x1), (2, .int x2)] := hl
  unfold V_X1_loop at h
  refine lv_aload_n hx hb dX1_loop_0 rfl (lv_at hl 0 rfl) ?_
  refine gt (v := .int (G 7 0 0)) kfX1_32 19 hC hw rfl rfl dX1_loop_1 ?_
  refine lv_topi (fun x_1 ex_1 => ?_)
  have h := h x_1 ex_1
  refine lv_istore_n (lv' := [(3, .int x_1), (0, .ref (ad 19)), (1, .int x1), (2, .int x2)]) hx hb dX1_loop_4 rfl hl (by decide) rfl (fun ls hl => ?_)
  refine lv_aload_n hx hb dX1_loop_5 rfl (lv_at hl 1 rfl) ?_
  refine lv_aload_n hx hb dX1_loop_6 rfl (lv_at hl 1 rfl) ?_
  refine gt (v := .ref (ad 6)) kfX1_24 19 hC hw rfl rfl dX1_loop_7 ?_
  refine lv_iload_n hx hb dX1_loop_10 rfl (lv_at hl 2 rfl) ?_
  refine eI_wT_wHp_6 kmX1_62 hC hw (m_X2_car l D cI cC cZ cJ (fun j => ad (6 + j)) N x1 (G 2) h) rfl rfl ⟨(show 1 + 1 ≤ 8 * d + (10 + 2) by omega), (show 8 + (2 + 11) + (21) ≤ 200 * d + (300 + 47) by omega)⟩ rfl hl.1 (Nat.le_of_ble_eq_true rfl) dX1_loop_11 ⟨Nat.zero_le _, Nat.zero_le _⟩ rfl ?_
  intro r_2 u_4 g_3 H locs eg_3 h hw
  have h := h g_3 eg_3
  refine lv_iload_n hx hb dX1_loop_14 rfl (lv_at hl 3 rfl) ?_
  refine cVIwe kmX1_39 hC hw hE (hrec r_2 x2 g_3 _ h) rfl rfl ⟨(show 8 * d + (10 + 0) + 1 ≤ 8 * d + (10 + 2) by omega), (show 8 + (3 + 11) + (200 * d + (300 + 0)) ≤ 200 * d + (300 + 47) by omega)⟩ (recvW hw rfl 19 rfl) rfl hl.1 (Nat.le_of_ble_eq_true rfl) dX1_loop_15 ⟨Nat.zero_le _, Nat.zero_le _⟩ rfl ?_
  intro r_5 g_6 H locs h hw
  refine lv_if_ne (tgt := 23) hx hb dX1_loop_18 (by decide) (fun c_7 => ?_) (fun c_7 => ?_)
  · have h := h.1 c_7
    refine lv_aload_n hx hb dX1_loop_23 rfl (lv_at hl 1 rfl) ?_
    refine lv_bipush (v := (9 : Int32)) hx hb dX1_loop_24 (by decide) ?_
    refine cVIwe kmX1_133 hC hw hE (m_X1_leap l D cI cC cZ cJ ad N ea (9 : Int32) g_6 h) rfl rfl ⟨(show 2 + 1 ≤ 8 * d + (10 + 2) by omega), (show 8 + (2 + 11) + (43) ≤ 200 * d + (300 + 47) by omega)⟩ (recvW hw rfl 19 rfl) rfl hl.1 (Nat.le_of_ble_eq_true rfl) dX1_loop_26 ⟨Nat.zero_le _, Nat.zero_le _⟩ rfl ?_
    intro r_8 g_9 H locs h hw
    refine lv_istore (lv' := [(4, .int r_8), (3, .int x_1), (0, .ref (ad 19)), (1, .int x1), (2, .int x2)]) hx hb dX1_loop_29 hl (by decide) rfl (fun ls hl => ?_)
    refine lv_aload_n hx hb dX1_loop_31 rfl (lv_at hl 2 rfl) ?_
    refine lv_aload_n hx hb dX1_loop_32 rfl (lv_at hl 2 rfl) ?_
    refine gt (v := .ref (ad 6)) kfX1_24 19 hC hw rfl rfl dX1_loop_33 ?_
    refine lv_iload_n hx hb dX1_loop_36 rfl (lv_at hl 3 rfl) ?_
    refine eI_wT_wHp_6 kmX1_67 hC hw (m_X2_cdr l D cI cC cZ cJ (fun j => ad (6 + j)) N x1 (g_9 2) h) rfl rfl ⟨(show 1 + 1 ≤ 8 * d + (10 + 2) by omega), (show 8 + (2 + 11) + (21) ≤ 200 * d + (300 + 47) by omega)⟩ rfl hl.1 (Nat.le_of_ble_eq_true rfl) dX1_loop_37 ⟨Nat.zero_le _, Nat.zero_le _⟩ rfl ?_
    intro r_10 u_12 g_11 H locs eg_11 h hw
    have h := h g_11 eg_11
    refine lv_iload_n hx hb dX1_loop_40 rfl (lv_at hl 4 rfl) ?_
    refine cVIwe kmX1_105 hC hw hE (m_X1_body l D cI cC cZ cJ ad N ea n d _ hrec r_10 x2 g_11 h) rfl rfl ⟨(show 8 * d + (10 + 1) + 1 ≤ 8 * d + (10 + 2) by omega), (show 8 + (6 + 11) + (200 * d + (300 + 22)) ≤ 200 * d + (300 + 47) by omega)⟩ (recvW hw rfl 19 rfl) rfl hl.1 (Nat.le_of_ble_eq_true rfl) dX1_loop_41 ⟨Nat.zero_le _, Nat.zero_le _⟩ rfl ?_
    intro r_13 g_14 H locs h hw
    refine lv_istore (lv' := [(5, .int r_13), (4, .int r_8), (3, .int x_1), (0, .ref (ad 19)), (1, .int x1), (2, .int x2)]) hx hb dX1_loop_44 hl (by decide) rfl (fun ls hl => ?_)
    refine lv_aload_n hx hb dX1_loop_46 rfl (lv_at hl 3 rfl) ?_
    refine lv_bipush (v := (7 : Int32)) hx hb dX1_loop_47 (by decide) ?_
    refine cVVwe kmX1_43 hC hw hE (m_X1_emit l D cI cC cZ cJ ad N ea (7 : Int32) g_14 h) rfl rfl ⟨(show 0 + 1 ≤ 8 * d + (10 + 2) by omega), (show 8 + (2 + 11) + (0) ≤ 200 * d + (300 + 47) by omega)⟩ (recvW hw rfl 19 rfl) rfl hl.1 (Nat.le_of_ble_eq_true rfl) dX1_loop_49 ⟨Nat.zero_le _, Nat.zero_le _⟩ rfl ?_
    intro g_16 H locs h hw
    refine lv_aload_n hx hb dX1_loop_52 rfl (lv_at hl 3 rfl) ?_
    refine lv_bipush (v := (8 : Int32)) hx hb dX1_loop_53 (by decide) ?_
    refine lv_iload_n hx hb dX1_loop_55 rfl (lv_at hl 2 rfl) ?_
    refine cVVwe kmX1_46 hC hw hE (m_X1_emit_ l D cI cC cZ cJ ad N ea (8 : Int32) x_1 g_16 h) rfl rfl ⟨(show 1 + 1 ≤ 8 * d + (10 + 2) by omega), (show 8 + (3 + 11) + (21) ≤ 200 * d + (300 + 47) by omega)⟩ (recvW hw rfl 19 rfl) rfl hl.1 (Nat.le_of_ble_eq_true rfl) dX1_loop_56 ⟨Nat.zero_le _, Nat.zero_le _⟩ rfl ?_
    intro g_18 H locs h hw
    refine lv_aload_n hx hb dX1_loop_59 rfl (lv_at hl 3 rfl) ?_
    refine lv_iload hx hb dX1_loop_60 (lv_at hl 1 rfl) ?_
    refine cVVwe kmX1_136 hC hw hE (m_X1_land l D cI cC cZ cJ ad N ea r_8 g_18 h) rfl rfl ⟨(show 0 + 1 ≤ 8 * d + (10 + 2) by omega), (show 8 + (2 + 11) + (0) ≤ 200 * d + (300 + 47) by omega)⟩ (recvW hw rfl 19 rfl) rfl hl.1 (Nat.le_of_ble_eq_true rfl) dX1_loop_62 ⟨Nat.zero_le _, Nat.zero_le _⟩ rfl ?_
    intro g_20 H locs h hw
    refine lv_aload_n hx hb dX1_loop_65 rfl (lv_at hl 3 rfl) ?_
    refine lv_iconst (v := (2 : Int32)) hx hb dX1_loop_66 (by decide) ?_
    refine lv_iconst (v := (1 : Int32)) hx hb dX1_loop_67 (by decide) ?_
    refine cVVwe kmX1_46 hC hw hE (m_X1_emit_ l D cI cC cZ cJ ad N ea (2 : Int32) (1 : Int32) g_20 h) rfl rfl ⟨(show 1 + 1 ≤ 8 * d + (10 + 2) by omega), (show 8 + (3 + 11) + (21) ≤ 200 * d + (300 + 47) by omega)⟩ (recvW hw rfl 19 rfl) rfl hl.1 (Nat.le_of_ble_eq_true rfl) dX1_loop_68 ⟨Nat.zero_le _, Nat.zero_le _⟩ rfl ?_
    intro g_22 H locs h hw
    refine lv_iload hx hb dX1_loop_71 (lv_at hl 0 rfl) ?_
    exact rtI (wf := (fun u : SG => (wT ad cI cC cZ cJ N u))) g_22 hC hr hlk hw (nz h.1).1 h.2 dX1_loop_73
  · have h := h.2 c_7
    refine lv_iconst (v := (0 : Int32)) hx hb dX1_loop_21 (by decide) ?_
    exact rtI (wf := (fun u : SG => (wT ad cI cC cZ cJ N u))) g_6 hC hr hlk hw (by decide) h dX1_loop_22
def V_X1_catching (N : Nat) (n : Nat) (E : Int32 → Int32 → SG → (Int32 → SG → Prop) → Prop) (x1 : Int32) (x2 : Int32) (G : SG) (post : Int32 → SG → Prop) : Prop := V_X2_car N x1 (G 2) (fun r_1 u_3 => ∀ g_2 : SG, g_2 = uo G 2 u_3 → E r_1 x2 g_2 (fun r_4 g_5 => ((¬ r_4 = 0 → V_X1_leap N (12 : Int32) g_5 (fun r_7 g_8 => V_X2_cdr N x1 (g_8 2) (fun r_9 u_11 => ∀ g_10 : SG, g_10 = uo g_8 2 u_11 → V_X1_body N n E r_9 x2 g_10 (fun r_12 g_13 => V_X1_emit N (13 : Int32) g_13 (fun g_15 => V_X1_land N r_7 g_15 (fun g_17 => ((r_12 = 0 ∨ r_12 = 1) ∧ post r_12 g_17))))))) ∧ (r_4 = 0 → post (0 : Int32) g_5))))
abbrev RM_X1_catching (d : Nat) : Room := { frames := 8 * d + (10 + 2), cells := 0, slots := 0, locals := 200 * d + (300 + 47) }
set_option maxHeartbeats 4000000 in
set_option maxRecDepth 100000 in
theorem m_X1_catching (l : Launch) (D : va_G) (cI cC cZ cJ : ClassId) (ad : Nat → Nat) (N : Nat) (ea : Nat → Nat → Nat) (n : Nat) (d : Nat) (E : Int32 → Int32 → SG → (Int32 → SG → Prop) → Prop) (hrec : ∀ (a b : Int32) (G : SG) (post : Int32 → SG → Prop), E a b G post → MetIE ea l yX1_evaluation cX1_evaluation 3 .boolean (RM_X1_evaluation d) D (ty4 cI cC cZ cJ) (wT ad cI cC cZ cJ N G) [.ref (ad 19), .int a, .int b] (fun u : SG => (wT ad cI cC cZ cJ N u)) post) (x1 : Int32) (x2 : Int32) (G : SG) {post : Int32 → SG → Prop} (h : V_X1_catching N n E x1 x2 G post) : MetIE ea l yX1_catching cX1_catching 5 .boolean (RM_X1_catching d) D (ty4 cI cC cZ cJ) (wT ad cI cC cZ cJ N G) [.ref (ad 19), .int x1, .int x2] (fun u : SG => (wT ad cI cC cZ cJ N u)) post := by
  refine mkIE (by decide) (Nat.le_of_ble_eq_true rfl) ?_
  intro p e s m args below meth c A ls hC hr hlk hw hE hl
  have hx := hC.1
  have hb := hC.2.1
  have hl : lv_has ls 5 [(0, .ref (ad 19)), (1, .int x1), (2, .int x2)] := hl
  unfold V_X1_catching at h
  refine lv_aload_n hx hb dX1_catching_0 rfl (lv_at hl 0 rfl) ?_
  refine lv_aload_n hx hb dX1_catching_1 rfl (lv_at hl 0 rfl) ?_
  refine gt (v := .ref (ad 6)) kfX1_24 19 hC hw rfl rfl dX1_catching_2 ?_
  refine lv_iload_n hx hb dX1_catching_5 rfl (lv_at hl 1 rfl) ?_
  refine eI_wT_wHp_6 kmX1_62 hC hw (m_X2_car l D cI cC cZ cJ (fun j => ad (6 + j)) N x1 (G 2) h) rfl rfl ⟨(show 1 + 1 ≤ 8 * d + (10 + 2) by omega), (show 8 + (2 + 11) + (21) ≤ 200 * d + (300 + 47) by omega)⟩ rfl hl.1 (Nat.le_of_ble_eq_true rfl) dX1_catching_6 ⟨Nat.zero_le _, Nat.zero_le _⟩ rfl ?_
  intro r_1 u_3 g_2 H locs eg_2 h hw
  have h := h g_2 eg_2
  refine lv_iload_n hx hb dX1_catching_9 rfl (lv_at hl 2 rfl) ?_
  refine cVIwe kmX1_39 hC hw hE (hrec r_1 x2 g_2 _ h) rfl rfl ⟨(show 8 * d + (10 + 0) + 1 ≤ 8 * d + (10 + 2) by omega), (show 8 + (3 + 11) + (200 * d + (300 + 0)) ≤ 200 * d + (300 + 47) by omega)⟩ (recvW hw rfl 19 rfl) rfl hl.1 (Nat.le_of_ble_eq_true rfl) dX1_catching_10 ⟨Nat.zero_le _, Nat.zero_le _⟩ rfl ?_
  intro r_4 g_5 H locs h hw
  refine lv_if_ne (tgt := 18) hx hb dX1_catching_13 (by decide) (fun c_6 => ?_) (fun c_6 => ?_)
  · have h := h.1 c_6
    refine lv_aload_n hx hb dX1_catching_18 rfl (lv_at hl 0 rfl) ?_
    refine lv_bipush (v := (12 : Int32)) hx hb dX1_catching_19 (by decide) ?_
    refine cVIwe kmX1_133 hC hw hE (m_X1_leap l D cI cC cZ cJ ad N ea (12 : Int32) g_5 h) rfl rfl ⟨(show 2 + 1 ≤ 8 * d + (10 + 2) by omega), (show 8 + (2 + 11) + (43) ≤ 200 * d + (300 + 47) by omega)⟩ (recvW hw rfl 19 rfl) rfl hl.1 (Nat.le_of_ble_eq_true rfl) dX1_catching_21 ⟨Nat.zero_le _, Nat.zero_le _⟩ rfl ?_
    intro r_7 g_8 H locs h hw
    refine lv_istore_n (lv' := [(3, .int r_7), (0, .ref (ad 19)), (1, .int x1), (2, .int x2)]) hx hb dX1_catching_24 rfl hl (by decide) rfl (fun ls hl => ?_)
    refine lv_aload_n hx hb dX1_catching_25 rfl (lv_at hl 1 rfl) ?_
    refine lv_aload_n hx hb dX1_catching_26 rfl (lv_at hl 1 rfl) ?_
    refine gt (v := .ref (ad 6)) kfX1_24 19 hC hw rfl rfl dX1_catching_27 ?_
    refine lv_iload_n hx hb dX1_catching_30 rfl (lv_at hl 2 rfl) ?_
    refine eI_wT_wHp_6 kmX1_67 hC hw (m_X2_cdr l D cI cC cZ cJ (fun j => ad (6 + j)) N x1 (g_8 2) h) rfl rfl ⟨(show 1 + 1 ≤ 8 * d + (10 + 2) by omega), (show 8 + (2 + 11) + (21) ≤ 200 * d + (300 + 47) by omega)⟩ rfl hl.1 (Nat.le_of_ble_eq_true rfl) dX1_catching_31 ⟨Nat.zero_le _, Nat.zero_le _⟩ rfl ?_
    intro r_9 u_11 g_10 H locs eg_10 h hw
    have h := h g_10 eg_10
    refine lv_iload_n hx hb dX1_catching_34 rfl (lv_at hl 3 rfl) ?_
    refine cVIwe kmX1_105 hC hw hE (m_X1_body l D cI cC cZ cJ ad N ea n d _ hrec r_9 x2 g_10 h) rfl rfl ⟨(show 8 * d + (10 + 1) + 1 ≤ 8 * d + (10 + 2) by omega), (show 8 + (6 + 11) + (200 * d + (300 + 22)) ≤ 200 * d + (300 + 47) by omega)⟩ (recvW hw rfl 19 rfl) rfl hl.1 (Nat.le_of_ble_eq_true rfl) dX1_catching_35 ⟨Nat.zero_le _, Nat.zero_le _⟩ rfl ?_
    intro r_12 g_13 H locs h hw
    refine lv_istore (lv' := [(4, .int r_12), (3, .int r_7), (0, .ref (ad 19)), (1, .int x1), (2, .int x2)]) hx hb dX1_catching_38 hl (by decide) rfl (fun ls hl => ?_)
    refine lv_aload_n hx hb dX1_catching_40 rfl (lv_at hl 2 rfl) ?_
    refine lv_bipush (v := (13 : Int32)) hx hb dX1_catching_41 (by decide) ?_
    refine cVVwe kmX1_43 hC hw hE (m_X1_emit l D cI cC cZ cJ ad N ea (13 : Int32) g_13 h) rfl rfl ⟨(show 0 + 1 ≤ 8 * d + (10 + 2) by omega), (show 8 + (2 + 11) + (0) ≤ 200 * d + (300 + 47) by omega)⟩ (recvW hw rfl 19 rfl) rfl hl.1 (Nat.le_of_ble_eq_true rfl) dX1_catching_43 ⟨Nat.zero_le _, Nat.zero_le _⟩ rfl ?_
    intro g_15 H locs h hw
    refine lv_aload_n hx hb dX1_catching_46 rfl (lv_at hl 2 rfl) ?_
    refine lv_iload_n hx hb dX1_catching_47 rfl (lv_at hl 1 rfl) ?_
    refine cVVwe kmX1_136 hC hw hE (m_X1_land l D cI cC cZ cJ ad N ea r_7 g_15 h) rfl rfl ⟨(show 0 + 1 ≤ 8 * d + (10 + 2) by omega), (show 8 + (2 + 11) + (0) ≤ 200 * d + (300 + 47) by omega)⟩ (recvW hw rfl 19 rfl) rfl hl.1 (Nat.le_of_ble_eq_true rfl) dX1_catching_48 ⟨Nat.zero_le _, Nat.zero_le _⟩ rfl ?_
    intro g_17 H locs h hw
    refine lv_iload hx hb dX1_catching_51 (lv_at hl 0 rfl) ?_
    exact rtI (wf := (fun u : SG => (wT ad cI cC cZ cJ N u))) g_17 hC hr hlk hw (nz h.1).1 h.2 dX1_catching_53
  · have h := h.2 c_6
    refine lv_iconst (v := (0 : Int32)) hx hb dX1_catching_16 (by decide) ?_
    exact rtI (wf := (fun u : SG => (wT ad cI cC cZ cJ N u))) g_5 hC hr hlk hw (by decide) h dX1_catching_17
def V_X1_closure (N : Nat) (n : Nat) (E : Int32 → Int32 → SG → (Int32 → SG → Prop) → Prop) (x1 : Int32) (x2 : Int32) (G : SG) (post : Int32 → SG → Prop) : Prop := V_X2_car N x1 (G 2) (fun r_1 u_3 => ∀ g_2 : SG, g_2 = uo G 2 u_3 → V_X1_areParameters N n r_1 g_2 (fun r_4 g_5 => ((¬ r_4 = 0 → V_X1_leap N (10 : Int32) g_5 (fun r_7 g_8 => V_X2_listLength N n r_1 (g_8 2) (fun r_9 u_11 => ∀ g_10 : SG, g_10 = uo g_8 2 u_11 → V_X1_emit N r_9 g_10 (fun g_13 => V_X8_push 12 r_1 (g_13 8) (fun u_16 => ∀ g_15 : SG, g_15 = uo g_13 8 u_16 → V_X2_cdr N x1 (g_15 2) (fun r_17 u_19 => ∀ g_18 : SG, g_18 = uo g_15 2 u_19 → V_X1_body N n E r_17 x2 g_18 (fun r_20 g_21 => V_X8_pop 12  (g_21 8) (fun r_22 u_24 => ∀ g_23 : SG, g_23 = uo g_21 8 u_24 → V_X1_emit N (11 : Int32) g_23 (fun g_26 => V_X1_land N r_7 g_26 (fun g_28 => ((r_20 = 0 ∨ r_20 = 1) ∧ post r_20 g_28))))))))))) ∧ (r_4 = 0 → post (0 : Int32) g_5))))
abbrev RM_X1_closure (d : Nat) : Room := { frames := 8 * d + (10 + 2), cells := 0, slots := 0, locals := 200 * d + (300 + 47) }
set_option maxHeartbeats 4000000 in
set_option maxRecDepth 100000 in
theorem m_X1_closure (l : Launch) (D : va_G) (cI cC cZ cJ : ClassId) (ad : Nat → Nat) (N : Nat) (ea : Nat → Nat → Nat) (n : Nat) (d : Nat) (E : Int32 → Int32 → SG → (Int32 → SG → Prop) → Prop) (hrec : ∀ (a b : Int32) (G : SG) (post : Int32 → SG → Prop), E a b G post → MetIE ea l yX1_evaluation cX1_evaluation 3 .boolean (RM_X1_evaluation d) D (ty4 cI cC cZ cJ) (wT ad cI cC cZ cJ N G) [.ref (ad 19), .int a, .int b] (fun u : SG => (wT ad cI cC cZ cJ N u)) post) (x1 : Int32) (x2 : Int32) (G : SG) {post : Int32 → SG → Prop} (h : V_X1_closure N n E x1 x2 G post) : MetIE ea l yX1_closure cX1_closure 6 .boolean (RM_X1_closure d) D (ty4 cI cC cZ cJ) (wT ad cI cC cZ cJ N G) [.ref (ad 19), .int x1, .int x2] (fun u : SG => (wT ad cI cC cZ cJ N u)) post := by
  refine mkIE (by decide) (Nat.le_of_ble_eq_true rfl) ?_
  intro p e s m args below meth c A ls hC hr hlk hw hE hl
  have hx := hC.1
  have hb := hC.2.1
  have hl : lv_has ls 6 [(0, .ref (ad 19)), (1, .int x1), (2, .int x2)] := hl
  unfold V_X1_closure at h
  refine lv_aload_n hx hb dX1_closure_0 rfl (lv_at hl 0 rfl) ?_
  refine gt (v := .ref (ad 6)) kfX1_24 19 hC hw rfl rfl dX1_closure_1 ?_
  refine lv_iload_n hx hb dX1_closure_4 rfl (lv_at hl 1 rfl) ?_
  refine eI_wT_wHp_6 kmX1_62 hC hw (m_X2_car l D cI cC cZ cJ (fun j => ad (6 + j)) N x1 (G 2) h) rfl rfl ⟨(show 1 + 1 ≤ 8 * d + (10 + 2) by omega), (show 8 + (2 + 11) + (21) ≤ 200 * d + (300 + 47) by omega)⟩ rfl hl.1 (Nat.le_of_ble_eq_true rfl) dX1_closure_5 ⟨Nat.zero_le _, Nat.zero_le _⟩ rfl ?_
  intro r_1 u_3 g_2 H locs eg_2 h hw
  have h := h g_2 eg_2
  refine lv_istore_n (lv' := [(3, .int r_1), (0, .ref (ad 19)), (1, .int x1), (2, .int x2)]) hx hb dX1_closure_8 rfl hl (by decide) rfl (fun ls hl => ?_)
  refine lv_aload_n hx hb dX1_closure_9 rfl (lv_at hl 1 rfl) ?_
  refine lv_iload_n hx hb dX1_closure_10 rfl (lv_at hl 0 rfl) ?_
  refine cVIwe kmX1_139 hC hw hE (m_X1_areParameters l D cI cC cZ cJ ad N ea n r_1 g_2 h) rfl rfl ⟨(show 3 + 1 ≤ 8 * d + (10 + 2) by omega), (show 8 + (6 + 11) + (66) ≤ 200 * d + (300 + 47) by omega)⟩ (recvW hw rfl 19 rfl) rfl hl.1 (Nat.le_of_ble_eq_true rfl) dX1_closure_11 ⟨Nat.zero_le _, Nat.zero_le _⟩ rfl ?_
  intro r_4 g_5 H locs h hw
  refine lv_if_ne (tgt := 19) hx hb dX1_closure_14 (by decide) (fun c_6 => ?_) (fun c_6 => ?_)
  · have h := h.1 c_6
    refine lv_aload_n hx hb dX1_closure_19 rfl (lv_at hl 1 rfl) ?_
    refine lv_bipush (v := (10 : Int32)) hx hb dX1_closure_20 (by decide) ?_
    refine cVIwe kmX1_133 hC hw hE (m_X1_leap l D cI cC cZ cJ ad N ea (10 : Int32) g_5 h) rfl rfl ⟨(show 2 + 1 ≤ 8 * d + (10 + 2) by omega), (show 8 + (2 + 11) + (43) ≤ 200 * d + (300 + 47) by omega)⟩ (recvW hw rfl 19 rfl) rfl hl.1 (Nat.le_of_ble_eq_true rfl) dX1_closure_22 ⟨Nat.zero_le _, Nat.zero_le _⟩ rfl ?_
    intro r_7 g_8 H locs h hw
    refine lv_istore (lv' := [(4, .int r_7), (3, .int r_1), (0, .ref (ad 19)), (1, .int x1), (2, .int x2)]) hx hb dX1_closure_25 hl (by decide) rfl (fun ls hl => ?_)
    refine lv_aload_n hx hb dX1_closure_27 rfl (lv_at hl 2 rfl) ?_
    refine lv_aload_n hx hb dX1_closure_28 rfl (lv_at hl 2 rfl) ?_
    refine gt (v := .ref (ad 6)) kfX1_24 19 hC hw rfl rfl dX1_closure_29 ?_
    refine lv_iload_n hx hb dX1_closure_32 rfl (lv_at hl 1 rfl) ?_
    refine eI_wT_wHp_6 kmX1_84 hC hw (m_X2_listLength l D cI cC cZ cJ (fun j => ad (6 + j)) N n r_1 (g_8 2) h) rfl rfl ⟨(show 2 + 1 ≤ 8 * d + (10 + 2) by omega), (show 8 + (4 + 11) + (42) ≤ 200 * d + (300 + 47) by omega)⟩ rfl hl.1 (Nat.le_of_ble_eq_true rfl) dX1_closure_33 ⟨Nat.zero_le _, Nat.zero_le _⟩ rfl ?_
    intro r_9 u_11 g_10 H locs eg_10 h hw
    have h := h g_10 eg_10
    refine cVVwe kmX1_43 hC hw hE (m_X1_emit l D cI cC cZ cJ ad N ea r_9 g_10 h) rfl rfl ⟨(show 0 + 1 ≤ 8 * d + (10 + 2) by omega), (show 8 + (2 + 11) + (0) ≤ 200 * d + (300 + 47) by omega)⟩ (recvW hw rfl 19 rfl) rfl hl.1 (Nat.le_of_ble_eq_true rfl) dX1_closure_36 ⟨Nat.zero_le _, Nat.zero_le _⟩ rfl ?_
    intro g_13 H locs h hw
    refine lv_aload_n hx hb dX1_closure_39 rfl (lv_at hl 2 rfl) ?_
    refine gt (v := .ref (ad 21)) kfX1_20 19 hC hw rfl rfl dX1_closure_40 ?_
    refine lv_iload_n hx hb dX1_closure_43 rfl (lv_at hl 1 rfl) ?_
    refine eV_wT_wSt_21 kmX1_143 hC hw (m_X8_push l D cI cC cZ cJ (fun j => ad (21 + j)) 12 r_1 (g_13 8) h) rfl rfl ⟨(show 0 + 1 ≤ 8 * d + (10 + 2) by omega), (show 8 + (2 + 11) + (0) ≤ 200 * d + (300 + 47) by omega)⟩ rfl hl.1 (Nat.le_of_ble_eq_true rfl) dX1_closure_44 ⟨Nat.zero_le _, Nat.zero_le _⟩ rfl ?_
    intro u_16 g_15 H locs eg_15 h hw
    have h := h g_15 eg_15
    refine lv_aload_n hx hb dX1_closure_47 rfl (lv_at hl 2 rfl) ?_
    refine lv_aload_n hx hb dX1_closure_48 rfl (lv_at hl 2 rfl) ?_
    refine gt (v := .ref (ad 6)) kfX1_24 19 hC hw rfl rfl dX1_closure_49 ?_
    refine lv_iload_n hx hb dX1_closure_52 rfl (lv_at hl 3 rfl) ?_
    refine eI_wT_wHp_6 kmX1_67 hC hw (m_X2_cdr l D cI cC cZ cJ (fun j => ad (6 + j)) N x1 (g_15 2) h) rfl rfl ⟨(show 1 + 1 ≤ 8 * d + (10 + 2) by omega), (show 8 + (2 + 11) + (21) ≤ 200 * d + (300 + 47) by omega)⟩ rfl hl.1 (Nat.le_of_ble_eq_true rfl) dX1_closure_53 ⟨Nat.zero_le _, Nat.zero_le _⟩ rfl ?_
    intro r_17 u_19 g_18 H locs eg_18 h hw
    have h := h g_18 eg_18
    refine lv_iload_n hx hb dX1_closure_56 rfl (lv_at hl 4 rfl) ?_
    refine cVIwe kmX1_105 hC hw hE (m_X1_body l D cI cC cZ cJ ad N ea n d _ hrec r_17 x2 g_18 h) rfl rfl ⟨(show 8 * d + (10 + 1) + 1 ≤ 8 * d + (10 + 2) by omega), (show 8 + (6 + 11) + (200 * d + (300 + 22)) ≤ 200 * d + (300 + 47) by omega)⟩ (recvW hw rfl 19 rfl) rfl hl.1 (Nat.le_of_ble_eq_true rfl) dX1_closure_57 ⟨Nat.zero_le _, Nat.zero_le _⟩ rfl ?_
    intro r_20 g_21 H locs h hw
    refine lv_istore (lv' := [(5, .int r_20), (4, .int r_7), (3, .int r_1), (0, .ref (ad 19)), (1, .int x1), (2, .int x2)]) hx hb dX1_closure_60 hl (by decide) rfl (fun ls hl => ?_)
    refine lv_aload_n hx hb dX1_closure_62 rfl (lv_at hl 3 rfl) ?_
    refine gt (v := .ref (ad 21)) kfX1_20 19 hC hw rfl rfl dX1_closure_63 ?_
    refine eI_wT_wSt_21 kmX1_146 hC hw (m_X8_pop l D cI cC cZ cJ (fun j => ad (21 + j)) 12  (g_21 8) h) rfl rfl ⟨(show 2 + 1 ≤ 8 * d + (10 + 2) by omega), (show 8 + (2 + 11) + (42) ≤ 200 * d + (300 + 47) by omega)⟩ rfl hl.1 (Nat.le_of_ble_eq_true rfl) dX1_closure_66 ⟨Nat.zero_le _, Nat.zero_le _⟩ rfl ?_
    intro r_22 u_24 g_23 H locs eg_23 h hw
    have h := h g_23 eg_23
    refine lv_pop hx hb dX1_closure_69 rfl ?_
    refine lv_aload_n hx hb dX1_closure_70 rfl (lv_at hl 3 rfl) ?_
    refine lv_bipush (v := (11 : Int32)) hx hb dX1_closure_71 (by decide) ?_
    refine cVVwe kmX1_43 hC hw hE (m_X1_emit l D cI cC cZ cJ ad N ea (11 : Int32) g_23 h) rfl rfl ⟨(show 0 + 1 ≤ 8 * d + (10 + 2) by omega), (show 8 + (2 + 11) + (0) ≤ 200 * d + (300 + 47) by omega)⟩ (recvW hw rfl 19 rfl) rfl hl.1 (Nat.le_of_ble_eq_true rfl) dX1_closure_73 ⟨Nat.zero_le _, Nat.zero_le _⟩ rfl ?_
    intro g_26 H locs h hw
    refine lv_aload_n hx hb dX1_closure_76 rfl (lv_at hl 3 rfl) ?_
    refine lv_iload hx hb dX1_closure_77 (lv_at hl 1 rfl) ?_
    refine cVVwe kmX1_136 hC hw hE (m_X1_land l D cI cC cZ cJ ad N ea r_7 g_26 h) rfl rfl ⟨(show 0 + 1 ≤ 8 * d + (10 + 2) by omega), (show 8 + (2 + 11) + (0) ≤ 200 * d + (300 + 47) by omega)⟩ (recvW hw rfl 19 rfl) rfl hl.1 (Nat.le_of_ble_eq_true rfl) dX1_closure_79 ⟨Nat.zero_le _, Nat.zero_le _⟩ rfl ?_
    intro g_28 H locs h hw
    refine lv_iload hx hb dX1_closure_82 (lv_at hl 0 rfl) ?_
    exact rtI (wf := (fun u : SG => (wT ad cI cC cZ cJ N u))) g_28 hC hr hlk hw (nz h.1).1 h.2 dX1_closure_84
  · have h := h.2 c_6
    refine lv_iconst (v := (0 : Int32)) hx hb dX1_closure_17 (by decide) ?_
    exact rtI (wf := (fun u : SG => (wT ad cI cC cZ cJ N u))) g_5 hC hr hlk hw (by decide) h dX1_closure_18
def V_X1_list_42 (N : Nat) (E : Int32 → Int32 → SG → (Int32 → SG → Prop) → Prop) (post : Int32 → SG → Prop) (n : Nat) (x1 : Int32) (x2 : Int32) (x4 : Int32) (y0 : Int32) (G : SG) : Prop := V_X3_at y0 (fun r_1 => V_X2_listLength N n x4 (G 2) (fun r_2 u_4 => ∀ g_3 : SG, g_3 = uo G 2 u_4 → (r_1 < 32 ∧ ((r_2 < (FEWL.getD r_1 0) → post (0 : Int32) g_3) ∧ (¬ r_2 < (FEWL.getD r_1 0) → (r_1 < 32 ∧ ((r_2 ≤ (MOSTL.getD r_1 0) → (r_1 < 32 ∧ (vp_in (nI r_1) 32 ∧ ∀ x_8 : Int32, x_8 = (SMAP.getD (nI r_1).toNatClampNeg 0) → ((x_8 = (1 : Int32) → V_X2_car N x4 (g_3 2) (fun r_10 u_12 => ∀ g_11 : SG, g_11 = uo g_3 2 u_12 → V_X1_emit_ N (2 : Int32) r_10 g_11 (fun g_14 => post (1 : Int32) g_14))) ∧ (x_8 = (2 : Int32) → V_X1_choice N n E x4 (x2 + (1 : Int32)) g_3 (fun r_15 g_16 => ((r_15 = 0 ∨ r_15 = 1) ∧ post r_15 g_16))) ∧ (x_8 = (3 : Int32) → V_X1_body N n E x4 (x2 + (1 : Int32)) g_3 (fun r_17 g_18 => ((r_17 = 0 ∨ r_17 = 1) ∧ post r_17 g_18))) ∧ (x_8 = (4 : Int32) → V_X1_setting N n E x4 (x2 + (1 : Int32)) g_3 (fun r_19 g_20 => ((r_19 = 0 ∨ r_19 = 1) ∧ post r_19 g_20))) ∧ (x_8 = (5 : Int32) → V_X1_loop N n E x4 (x2 + (1 : Int32)) g_3 (fun r_21 g_22 => ((r_21 = 0 ∨ r_21 = 1) ∧ post r_21 g_22))) ∧ (x_8 = (6 : Int32) → V_X1_closure N n E x4 (x2 + (1 : Int32)) g_3 (fun r_23 g_24 => ((r_23 = 0 ∨ r_23 = 1) ∧ post r_23 g_24))) ∧ (x_8 = (7 : Int32) → V_X1_catching N n E x4 (x2 + (1 : Int32)) g_3 (fun r_25 g_26 => ((r_25 = 0 ∨ r_25 = 1) ∧ post r_25 g_26))) ∧ (x_8 = (8 : Int32) → V_X1_throwing N n E x4 (x2 + (1 : Int32)) g_3 (fun r_27 g_28 => ((r_27 = 0 ∨ r_27 = 1) ∧ post r_27 g_28))) ∧ (x_8 = (9 : Int32) → V_X1_calling N n E x1 (x2 + (1 : Int32)) g_3 (fun r_29 g_30 => ((r_29 = 0 ∨ r_29 = 1) ∧ post r_29 g_30))) ∧ (¬ x_8 = (1 : Int32) → ¬ x_8 = (2 : Int32) → ¬ x_8 = (3 : Int32) → ¬ x_8 = (4 : Int32) → ¬ x_8 = (5 : Int32) → ¬ x_8 = (6 : Int32) → ¬ x_8 = (7 : Int32) → ¬ x_8 = (8 : Int32) → ¬ x_8 = (9 : Int32) → V_X1_applying N n E y0 x4 (x2 + (1 : Int32)) g_3 (fun r_31 g_32 => ((r_31 = 0 ∨ r_31 = 1) ∧ post r_31 g_32))))))) ∧ (¬ r_2 ≤ (MOSTL.getD r_1 0) → post (0 : Int32) g_3))))))))
def V_X1_list (N : Nat) (n : Nat) (E : Int32 → Int32 → SG → (Int32 → SG → Prop) → Prop) (x1 : Int32) (x2 : Int32) (G : SG) (post : Int32 → SG → Prop) : Prop := V_X2_car N x1 (G 2) (fun r_33 u_35 => ∀ g_34 : SG, g_34 = uo G 2 u_35 → V_X2_cdr N x1 (g_34 2) (fun r_36 u_38 => ∀ g_37 : SG, g_37 = uo g_34 2 u_38 → V_X10_tag r_33 (fun r_39 => ((¬ r_39 = (3 : Int32) → V_X1_list_42 N E post n x1 x2 r_36 (0 : Int32) g_37) ∧ (r_39 = (3 : Int32) → V_X10_held r_33 (fun r_41 => V_X9_operator r_41 (g_37 1) (fun r_42 u_44 => ∀ g_43 : SG, g_43 = uo g_37 1 u_44 → V_X1_list_42 N E post n x1 x2 r_36 r_42 g_43)))))))
abbrev RM_X1_list (d : Nat) : Room := { frames := 8 * d + (10 + 3), cells := 0, slots := 0, locals := 200 * d + (300 + 73) }
set_option maxHeartbeats 4000000 in
set_option maxRecDepth 100000 in
theorem m_X1_list (l : Launch) (D : va_G) (cI cC cZ cJ : ClassId) (ad : Nat → Nat) (N : Nat) (ea : Nat → Nat → Nat) (n : Nat) (d : Nat) (E : Int32 → Int32 → SG → (Int32 → SG → Prop) → Prop) (hrec : ∀ (a b : Int32) (G : SG) (post : Int32 → SG → Prop), E a b G post → MetIE ea l yX1_evaluation cX1_evaluation 3 .boolean (RM_X1_evaluation d) D (ty4 cI cC cZ cJ) (wT ad cI cC cZ cJ N G) [.ref (ad 19), .int a, .int b] (fun u : SG => (wT ad cI cC cZ cJ N u)) post) (x1 : Int32) (x2 : Int32) (G : SG) {post : Int32 → SG → Prop} (h : V_X1_list N n E x1 x2 G post) : MetIE ea l yX1_list cX1_list 8 .boolean (RM_X1_list d) D (ty4 cI cC cZ cJ) (wT ad cI cC cZ cJ N G) [.ref (ad 19), .int x1, .int x2] (fun u : SG => (wT ad cI cC cZ cJ N u)) post := by
  refine mkIE (by decide) (Nat.le_of_ble_eq_true rfl) ?_
  intro p e s m args below meth c A ls hC hr hlk hw hE hl
  have hx := hC.1
  have hb := hC.2.1
  have hl : lv_has ls 8 [(0, .ref (ad 19)), (1, .int x1), (2, .int x2)] := hl
  have w_42 : ∀ (n : Nat) (x1 : Int32) (x2 : Int32) (x4 : Int32) (y0 : Int32) (G : SG) (H : Heap) (locs : List Loc) (ls : Array Slot), V_X1_list_42 N E post n x1 x2 x4 y0 G → Wd D (ty4 cI cC cZ cJ) A s (wT ad cI cC cZ cJ N G) H locs → lv_has ls 8 [(0, .ref (ad 19)), (1, .int x1), (2, .int x2), (4, .int x4)] → W p l e (RM_X1_list d) s m args below meth c H locs 0 0 (QI below D (ty4 cI cC cZ cJ) A args s (fun u : SG => (wT ad cI cC cZ cJ N u)) post) (F0 m 42 ls [.int y0]) := by
    intro n x1 x2 x4 y0 G H locs ls h hw hl
    unfold V_X1_list_42 at h
    refine lv_istore (lv' := [(5, .int y0), (0, .ref (ad 19)), (1, .int x1), (2, .int x2), (4, .int x4)]) hx hb dX1_list_42 hl (by decide) rfl (fun ls hl => ?_)
    refine lv_iload hx hb dX1_list_44 (lv_at hl 0 rfl) ?_
    refine cSR ksX1_78 hC hw hE (m_X3_at l D cI cC cZ cJ ea y0 h) rfl rfl ⟨(show 0 + 1 ≤ 8 * d + (10 + 3) by omega), (show 8 + (1 + 11) + (0) ≤ 200 * d + (300 + 73) by omega)⟩ rfl hl.1 (Nat.le_of_ble_eq_true rfl) dX1_list_46 ⟨Nat.zero_le _, Nat.zero_le _⟩ rfl ?_
    intro r_1 H locs h hw
    refine lv_astore (lv' := [(6, .ref (ea 0 r_1)), (5, .int y0), (0, .ref (ad 19)), (1, .int x1), (2, .int x2), (4, .int x4)]) hx hb dX1_list_49 hl (by decide) rfl (fun ls hl => ?_)
    refine lv_aload_n hx hb dX1_list_51 rfl (lv_at hl 2 rfl) ?_
    refine gt (v := .ref (ad 6)) kfX1_24 19 hC hw rfl rfl dX1_list_52 ?_
    refine lv_iload hx hb dX1_list_55 (lv_at hl 5 rfl) ?_
    refine eI_wT_wHp_6 kmX1_84 hC hw (m_X2_listLength l D cI cC cZ cJ (fun j => ad (6 + j)) N n x4 (G 2) h) rfl rfl ⟨(show 2 + 1 ≤ 8 * d + (10 + 3) by omega), (show 8 + (4 + 11) + (42) ≤ 200 * d + (300 + 73) by omega)⟩ rfl hl.1 (Nat.le_of_ble_eq_true rfl) dX1_list_57 ⟨Nat.zero_le _, Nat.zero_le _⟩ rfl ?_
    intro r_2 u_4 g_3 H locs eg_3 h hw
    have h := h g_3 eg_3
    refine lv_istore (lv' := [(7, .int r_2), (6, .ref (ea 0 r_1)), (5, .int y0), (0, .ref (ad 19)), (1, .int x1), (2, .int x2), (4, .int x4)]) hx hb dX1_list_60 hl (by decide) rfl (fun ls hl => ?_)
    refine lv_iload hx hb dX1_list_62 (lv_at hl 0 rfl) ?_
    refine lv_aload hx hb dX1_list_64 (lv_at hl 1 rfl) ?_
    refine gtO koX1_87 hC hw (hE.2.2.2.2.2.2.1 _ h.1).2.2.1 dX1_list_66 ?_
    have h := h.2
    refine lv_icmp_lt (tgt := 82) hx hb dX1_list_69 (by decide) (fun c_5 => ?_) (fun c_5 => ?_)
    · have h := h.1 c_5
      refine lv_iconst (v := (0 : Int32)) hx hb dX1_list_82 (by decide) ?_
      exact rtI (wf := (fun u : SG => (wT ad cI cC cZ cJ N u))) g_3 hC hr hlk hw (by decide) h dX1_list_83
    · have h := h.2 c_5
      refine lv_iload hx hb dX1_list_72 (lv_at hl 0 rfl) ?_
      refine lv_aload hx hb dX1_list_74 (lv_at hl 1 rfl) ?_
      refine gtO koX1_90 hC hw (hE.2.2.2.2.2.2.1 _ h.1).2.2.2.1 dX1_list_76 ?_
      have h := h.2
      refine lv_icmp_le (tgt := 84) hx hb dX1_list_79 (by decide) (fun c_6 => ?_) (fun c_6 => ?_)
      · have h := h.1 c_6
        refine gts kzX1_93 hC hw hE.2.2.2.1 dX1_list_84 ?_
        refine lv_aload hx hb dX1_list_87 (lv_at hl 1 rfl) ?_
        refine cOrdG kordX1 rfl (by decide) hC hw hE h.1 (m_Jx29ce0_ordinal_8abf5 l D cI cC cZ cJ ea r_1 (post := fun r => r = nI r_1) ⟨h.1, rfl⟩) rfl rfl ⟨(show 0 + 1 ≤ 8 * d + (10 + 3) by omega), (show 8 + (1 + 11) + (0) ≤ 200 * d + (300 + 73) by omega)⟩ hl.1 (Nat.le_of_ble_eq_true rfl) dX1_list_89 ⟨Nat.zero_le _, Nat.zero_le _⟩ ?_
        have h := h.2
        intro H locs hw
        refine va_ti hx hb hE.2.2.2.2.1 hw.2.2.2.1 h.1 rfl dX1_list_92 ?_
        have h := h.2
        refine lv_topi (fun x_8 ex_8 => ?_)
        have h := h x_8 ex_8
        by_cases c_9_1 : x_8 = (1 : Int32)
        · refine lv_tableIn (off := 51) (tgt := 144) hx hb dX1_list_93 (by rw [c_9_1]; decide) (by rw [c_9_1]; decide) (by rw [c_9_1]; decide) (by decide) ?_
          have h := h.1 c_9_1
          refine lv_aload_n hx hb dX1_list_144 rfl (lv_at hl 3 rfl) ?_
          refine lv_iconst (v := (2 : Int32)) hx hb dX1_list_145 (by decide) ?_
          refine lv_aload_n hx hb dX1_list_146 rfl (lv_at hl 3 rfl) ?_
          refine gt (v := .ref (ad 6)) kfX1_24 19 hC hw rfl rfl dX1_list_147 ?_
          refine lv_iload hx hb dX1_list_150 (lv_at hl 6 rfl) ?_
          refine eI_wT_wHp_6 kmX1_62 hC hw (m_X2_car l D cI cC cZ cJ (fun j => ad (6 + j)) N x4 (g_3 2) h) rfl rfl ⟨(show 1 + 1 ≤ 8 * d + (10 + 3) by omega), (show 8 + (2 + 11) + (21) ≤ 200 * d + (300 + 73) by omega)⟩ rfl hl.1 (Nat.le_of_ble_eq_true rfl) dX1_list_152 ⟨Nat.zero_le _, Nat.zero_le _⟩ rfl ?_
          intro r_10 u_12 g_11 H locs eg_11 h hw
          have h := h g_11 eg_11
          refine cVVwe kmX1_46 hC hw hE (m_X1_emit_ l D cI cC cZ cJ ad N ea (2 : Int32) r_10 g_11 h) rfl rfl ⟨(show 1 + 1 ≤ 8 * d + (10 + 3) by omega), (show 8 + (3 + 11) + (21) ≤ 200 * d + (300 + 73) by omega)⟩ (recvW hw rfl 19 rfl) rfl hl.1 (Nat.le_of_ble_eq_true rfl) dX1_list_155 ⟨Nat.zero_le _, Nat.zero_le _⟩ rfl ?_
          intro g_14 H locs h hw
          refine lv_iconst (v := (1 : Int32)) hx hb dX1_list_158 (by decide) ?_
          exact rtI (wf := (fun u : SG => (wT ad cI cC cZ cJ N u))) g_14 hC hr hlk hw (by decide) h dX1_list_159
        have h := h.2
        by_cases c_9_2 : x_8 = (2 : Int32)
        · refine lv_tableIn (off := 67) (tgt := 160) hx hb dX1_list_93 (by rw [c_9_2]; decide) (by rw [c_9_2]; decide) (by rw [c_9_2]; decide) (by decide) ?_
          have h := h.1 c_9_2
          refine lv_aload_n hx hb dX1_list_160 rfl (lv_at hl 3 rfl) ?_
          refine lv_iload hx hb dX1_list_161 (lv_at hl 6 rfl) ?_
          refine lv_iload_n hx hb dX1_list_163 rfl (lv_at hl 5 rfl) ?_
          refine lv_iconst (v := (1 : Int32)) hx hb dX1_list_164 (by decide) ?_
          refine lv_iadd hx hb dX1_list_165 ?_
          refine cVIwe kmX1_102 hC hw hE (m_X1_choice l D cI cC cZ cJ ad N ea n d _ hrec x4 (x2 + (1 : Int32)) g_3 h) rfl rfl ⟨(show 8 * d + (10 + 2) + 1 ≤ 8 * d + (10 + 3) by omega), (show 8 + (7 + 11) + (200 * d + (300 + 47)) ≤ 200 * d + (300 + 73) by omega)⟩ (recvW hw rfl 19 rfl) rfl hl.1 (Nat.le_of_ble_eq_true rfl) dX1_list_166 ⟨Nat.zero_le _, Nat.zero_le _⟩ rfl ?_
          intro r_15 g_16 H locs h hw
          exact rtI (wf := (fun u : SG => (wT ad cI cC cZ cJ N u))) g_16 hC hr hlk hw (nz h.1).1 h.2 dX1_list_169
        have h := h.2
        by_cases c_9_3 : x_8 = (3 : Int32)
        · refine lv_tableIn (off := 77) (tgt := 170) hx hb dX1_list_93 (by rw [c_9_3]; decide) (by rw [c_9_3]; decide) (by rw [c_9_3]; decide) (by decide) ?_
          have h := h.1 c_9_3
          refine lv_aload_n hx hb dX1_list_170 rfl (lv_at hl 3 rfl) ?_
          refine lv_iload hx hb dX1_list_171 (lv_at hl 6 rfl) ?_
          refine lv_iload_n hx hb dX1_list_173 rfl (lv_at hl 5 rfl) ?_
          refine lv_iconst (v := (1 : Int32)) hx hb dX1_list_174 (by decide) ?_
          refine lv_iadd hx hb dX1_list_175 ?_
          refine cVIwe kmX1_105 hC hw hE (m_X1_body l D cI cC cZ cJ ad N ea n d _ hrec x4 (x2 + (1 : Int32)) g_3 h) rfl rfl ⟨(show 8 * d + (10 + 1) + 1 ≤ 8 * d + (10 + 3) by omega), (show 8 + (6 + 11) + (200 * d + (300 + 22)) ≤ 200 * d + (300 + 73) by omega)⟩ (recvW hw rfl 19 rfl) rfl hl.1 (Nat.le_of_ble_eq_true rfl) dX1_list_176 ⟨Nat.zero_le _, Nat.zero_le _⟩ rfl ?_
          intro r_17 g_18 H locs h hw
          exact rtI (wf := (fun u : SG => (wT ad cI cC cZ cJ N u))) g_18 hC hr hlk hw (nz h.1).1 h.2 dX1_list_179
        have h := h.2
        by_cases c_9_4 : x_8 = (4 : Int32)
        · refine lv_tableIn (off := 87) (tgt := 180) hx hb dX1_list_93 (by rw [c_9_4]; decide) (by rw [c_9_4]; decide) (by rw [c_9_4]; decide) (by decide) ?_
          have h := h.1 c_9_4
          refine lv_aload_n hx hb dX1_list_180 rfl (lv_at hl 3 rfl) ?_
          refine lv_iload hx hb dX1_list_181 (lv_at hl 6 rfl) ?_
          refine lv_iload_n hx hb dX1_list_183 rfl (lv_at hl 5 rfl) ?_
          refine lv_iconst (v := (1 : Int32)) hx hb dX1_list_184 (by decide) ?_
          refine lv_iadd hx hb dX1_list_185 ?_
          refine cVIwe kmX1_108 hC hw hE (m_X1_setting l D cI cC cZ cJ ad N ea n d _ hrec x4 (x2 + (1 : Int32)) g_3 h) rfl rfl ⟨(show 8 * d + (10 + 1) + 1 ≤ 8 * d + (10 + 3) by omega), (show 8 + (4 + 11) + (200 * d + (300 + 22)) ≤ 200 * d + (300 + 73) by omega)⟩ (recvW hw rfl 19 rfl) rfl hl.1 (Nat.le_of_ble_eq_true rfl) dX1_list_186 ⟨Nat.zero_le _, Nat.zero_le _⟩ rfl ?_
          intro r_19 g_20 H locs h hw
          exact rtI (wf := (fun u : SG => (wT ad cI cC cZ cJ N u))) g_20 hC hr hlk hw (nz h.1).1 h.2 dX1_list_189
        have h := h.2
        by_cases c_9_5 : x_8 = (5 : Int32)
        · refine lv_tableIn (off := 97) (tgt := 190) hx hb dX1_list_93 (by rw [c_9_5]; decide) (by rw [c_9_5]; decide) (by rw [c_9_5]; decide) (by decide) ?_
          have h := h.1 c_9_5
          refine lv_aload_n hx hb dX1_list_190 rfl (lv_at hl 3 rfl) ?_
          refine lv_iload hx hb dX1_list_191 (lv_at hl 6 rfl) ?_
          refine lv_iload_n hx hb dX1_list_193 rfl (lv_at hl 5 rfl) ?_
          refine lv_iconst (v := (1 : Int32)) hx hb dX1_list_194 (by decide) ?_
          refine lv_iadd hx hb dX1_list_195 ?_
          refine cVIwe kmX1_111 hC hw hE (m_X1_loop l D cI cC cZ cJ ad N ea n d _ hrec x4 (x2 + (1 : Int32)) g_3 h) rfl rfl ⟨(show 8 * d + (10 + 2) + 1 ≤ 8 * d + (10 + 3) by omega), (show 8 + (6 + 11) + (200 * d + (300 + 47)) ≤ 200 * d + (300 + 73) by omega)⟩ (recvW hw rfl 19 rfl) rfl hl.1 (Nat.le_of_ble_eq_true rfl) dX1_list_196 ⟨Nat.zero_le _, Nat.zero_le _⟩ rfl ?_
          intro r_21 g_22 H locs h hw
          exact rtI (wf := (fun u : SG => (wT ad cI cC cZ cJ N u))) g_22 hC hr hlk hw (nz h.1).1 h.2 dX1_list_199
        have h := h.2
        by_cases c_9_6 : x_8 = (6 : Int32)
        · refine lv_tableIn (off := 107) (tgt := 200) hx hb dX1_list_93 (by rw [c_9_6]; decide) (by rw [c_9_6]; decide) (by rw [c_9_6]; decide) (by decide) ?_
          have h := h.1 c_9_6
          refine lv_aload_n hx hb dX1_list_200 rfl (lv_at hl 3 rfl) ?_
          refine lv_iload hx hb dX1_list_201 (lv_at hl 6 rfl) ?_
          refine lv_iload_n hx hb dX1_list_203 rfl (lv_at hl 5 rfl) ?_
          refine lv_iconst (v := (1 : Int32)) hx hb dX1_list_204 (by decide) ?_
          refine lv_iadd hx hb dX1_list_205 ?_
          refine cVIwe kmX1_114 hC hw hE (m_X1_closure l D cI cC cZ cJ ad N ea n d _ hrec x4 (x2 + (1 : Int32)) g_3 h) rfl rfl ⟨(show 8 * d + (10 + 2) + 1 ≤ 8 * d + (10 + 3) by omega), (show 8 + (6 + 11) + (200 * d + (300 + 47)) ≤ 200 * d + (300 + 73) by omega)⟩ (recvW hw rfl 19 rfl) rfl hl.1 (Nat.le_of_ble_eq_true rfl) dX1_list_206 ⟨Nat.zero_le _, Nat.zero_le _⟩ rfl ?_
          intro r_23 g_24 H locs h hw
          exact rtI (wf := (fun u : SG => (wT ad cI cC cZ cJ N u))) g_24 hC hr hlk hw (nz h.1).1 h.2 dX1_list_209
        have h := h.2
        by_cases c_9_7 : x_8 = (7 : Int32)
        · refine lv_tableIn (off := 117) (tgt := 210) hx hb dX1_list_93 (by rw [c_9_7]; decide) (by rw [c_9_7]; decide) (by rw [c_9_7]; decide) (by decide) ?_
          have h := h.1 c_9_7
          refine lv_aload_n hx hb dX1_list_210 rfl (lv_at hl 3 rfl) ?_
          refine lv_iload hx hb dX1_list_211 (lv_at hl 6 rfl) ?_
          refine lv_iload_n hx hb dX1_list_213 rfl (lv_at hl 5 rfl) ?_
          refine lv_iconst (v := (1 : Int32)) hx hb dX1_list_214 (by decide) ?_
          refine lv_iadd hx hb dX1_list_215 ?_
          refine cVIwe kmX1_117 hC hw hE (m_X1_catching l D cI cC cZ cJ ad N ea n d _ hrec x4 (x2 + (1 : Int32)) g_3 h) rfl rfl ⟨(show 8 * d + (10 + 2) + 1 ≤ 8 * d + (10 + 3) by omega), (show 8 + (5 + 11) + (200 * d + (300 + 47)) ≤ 200 * d + (300 + 73) by omega)⟩ (recvW hw rfl 19 rfl) rfl hl.1 (Nat.le_of_ble_eq_true rfl) dX1_list_216 ⟨Nat.zero_le _, Nat.zero_le _⟩ rfl ?_
          intro r_25 g_26 H locs h hw
          exact rtI (wf := (fun u : SG => (wT ad cI cC cZ cJ N u))) g_26 hC hr hlk hw (nz h.1).1 h.2 dX1_list_219
        have h := h.2
        by_cases c_9_8 : x_8 = (8 : Int32)
        · refine lv_tableIn (off := 127) (tgt := 220) hx hb dX1_list_93 (by rw [c_9_8]; decide) (by rw [c_9_8]; decide) (by rw [c_9_8]; decide) (by decide) ?_
          have h := h.1 c_9_8
          refine lv_aload_n hx hb dX1_list_220 rfl (lv_at hl 3 rfl) ?_
          refine lv_iload hx hb dX1_list_221 (lv_at hl 6 rfl) ?_
          refine lv_iload_n hx hb dX1_list_223 rfl (lv_at hl 5 rfl) ?_
          refine lv_iconst (v := (1 : Int32)) hx hb dX1_list_224 (by decide) ?_
          refine lv_iadd hx hb dX1_list_225 ?_
          refine cVIwe kmX1_120 hC hw hE (m_X1_throwing l D cI cC cZ cJ ad N ea n d _ hrec x4 (x2 + (1 : Int32)) g_3 h) rfl rfl ⟨(show 8 * d + (10 + 2) + 1 ≤ 8 * d + (10 + 3) by omega), (show 8 + (4 + 11) + (200 * d + (300 + 47)) ≤ 200 * d + (300 + 73) by omega)⟩ (recvW hw rfl 19 rfl) rfl hl.1 (Nat.le_of_ble_eq_true rfl) dX1_list_226 ⟨Nat.zero_le _, Nat.zero_le _⟩ rfl ?_
          intro r_27 g_28 H locs h hw
          exact rtI (wf := (fun u : SG => (wT ad cI cC cZ cJ N u))) g_28 hC hr hlk hw (nz h.1).1 h.2 dX1_list_229
        have h := h.2
        by_cases c_9_9 : x_8 = (9 : Int32)
        · refine lv_tableIn (off := 137) (tgt := 230) hx hb dX1_list_93 (by rw [c_9_9]; decide) (by rw [c_9_9]; decide) (by rw [c_9_9]; decide) (by decide) ?_
          have h := h.1 c_9_9
          refine lv_aload_n hx hb dX1_list_230 rfl (lv_at hl 3 rfl) ?_
          refine lv_iload_n hx hb dX1_list_231 rfl (lv_at hl 4 rfl) ?_
          refine lv_iload_n hx hb dX1_list_232 rfl (lv_at hl 5 rfl) ?_
          refine lv_iconst (v := (1 : Int32)) hx hb dX1_list_233 (by decide) ?_
          refine lv_iadd hx hb dX1_list_234 ?_
          refine cVIwe kmX1_123 hC hw hE (m_X1_calling l D cI cC cZ cJ ad N ea n d _ hrec x1 (x2 + (1 : Int32)) g_3 h) rfl rfl ⟨(show 8 * d + (10 + 2) + 1 ≤ 8 * d + (10 + 3) by omega), (show 8 + (4 + 11) + (200 * d + (300 + 47)) ≤ 200 * d + (300 + 73) by omega)⟩ (recvW hw rfl 19 rfl) rfl hl.1 (Nat.le_of_ble_eq_true rfl) dX1_list_235 ⟨Nat.zero_le _, Nat.zero_le _⟩ rfl ?_
          intro r_29 g_30 H locs h hw
          exact rtI (wf := (fun u : SG => (wT ad cI cC cZ cJ N u))) g_30 hC hr hlk hw (nz h.1).1 h.2 dX1_list_238
        have h := h.2
        have nc_9_1 := lv_neT c_9_1 (a := 1) (by decide)
        have nc_9_2 := lv_neT c_9_2 (a := 2) (by decide)
        have nc_9_3 := lv_neT c_9_3 (a := 3) (by decide)
        have nc_9_4 := lv_neT c_9_4 (a := 4) (by decide)
        have nc_9_5 := lv_neT c_9_5 (a := 5) (by decide)
        have nc_9_6 := lv_neT c_9_6 (a := 6) (by decide)
        have nc_9_7 := lv_neT c_9_7 (a := 7) (by decide)
        have nc_9_8 := lv_neT c_9_8 (a := 8) (by decide)
        have nc_9_9 := lv_neT c_9_9 (a := 9) (by decide)
        refine lv_tableOut (tgt := 239) hx hb dX1_list_93 (by omega) (by decide) ?_
        have h := h c_9_1 c_9_2 c_9_3 c_9_4 c_9_5 c_9_6 c_9_7 c_9_8 c_9_9
        refine lv_aload_n hx hb dX1_list_239 rfl (lv_at hl 3 rfl) ?_
        refine lv_iload hx hb dX1_list_240 (lv_at hl 2 rfl) ?_
        refine lv_iload hx hb dX1_list_242 (lv_at hl 6 rfl) ?_
        refine lv_iload_n hx hb dX1_list_244 rfl (lv_at hl 5 rfl) ?_
        refine lv_iconst (v := (1 : Int32)) hx hb dX1_list_245 (by decide) ?_
        refine lv_iadd hx hb dX1_list_246 ?_
        refine cVIwe kmX1_126 hC hw hE (m_X1_applying l D cI cC cZ cJ ad N ea n d _ hrec y0 x4 (x2 + (1 : Int32)) g_3 h) rfl rfl ⟨(show 8 * d + (10 + 2) + 1 ≤ 8 * d + (10 + 3) by omega), (show 8 + (5 + 11) + (200 * d + (300 + 47)) ≤ 200 * d + (300 + 73) by omega)⟩ (recvW hw rfl 19 rfl) rfl hl.1 (Nat.le_of_ble_eq_true rfl) dX1_list_247 ⟨Nat.zero_le _, Nat.zero_le _⟩ rfl ?_
        intro r_31 g_32 H locs h hw
        exact rtI (wf := (fun u : SG => (wT ad cI cC cZ cJ N u))) g_32 hC hr hlk hw (nz h.1).1 h.2 dX1_list_250
      · have h := h.2 c_6
        refine lv_iconst (v := (0 : Int32)) hx hb dX1_list_82 (by decide) ?_
        exact rtI (wf := (fun u : SG => (wT ad cI cC cZ cJ N u))) g_3 hC hr hlk hw (by decide) h dX1_list_83
  unfold V_X1_list at h
  refine lv_aload_n hx hb dX1_list_0 rfl (lv_at hl 0 rfl) ?_
  refine gt (v := .ref (ad 6)) kfX1_24 19 hC hw rfl rfl dX1_list_1 ?_
  refine lv_iload_n hx hb dX1_list_4 rfl (lv_at hl 1 rfl) ?_
  refine eI_wT_wHp_6 kmX1_62 hC hw (m_X2_car l D cI cC cZ cJ (fun j => ad (6 + j)) N x1 (G 2) h) rfl rfl ⟨(show 1 + 1 ≤ 8 * d + (10 + 3) by omega), (show 8 + (2 + 11) + (21) ≤ 200 * d + (300 + 73) by omega)⟩ rfl hl.1 (Nat.le_of_ble_eq_true rfl) dX1_list_5 ⟨Nat.zero_le _, Nat.zero_le _⟩ rfl ?_
  intro r_33 u_35 g_34 H locs eg_34 h hw
  have h := h g_34 eg_34
  refine lv_istore_n (lv' := [(3, .int r_33), (0, .ref (ad 19)), (1, .int x1), (2, .int x2)]) hx hb dX1_list_8 rfl hl (by decide) rfl (fun ls hl => ?_)
  refine lv_aload_n hx hb dX1_list_9 rfl (lv_at hl 1 rfl) ?_
  refine gt (v := .ref (ad 6)) kfX1_24 19 hC hw rfl rfl dX1_list_10 ?_
  refine lv_iload_n hx hb dX1_list_13 rfl (lv_at hl 2 rfl) ?_
  refine eI_wT_wHp_6 kmX1_67 hC hw (m_X2_cdr l D cI cC cZ cJ (fun j => ad (6 + j)) N x1 (g_34 2) h) rfl rfl ⟨(show 1 + 1 ≤ 8 * d + (10 + 3) by omega), (show 8 + (2 + 11) + (21) ≤ 200 * d + (300 + 73) by omega)⟩ rfl hl.1 (Nat.le_of_ble_eq_true rfl) dX1_list_14 ⟨Nat.zero_le _, Nat.zero_le _⟩ rfl ?_
  intro r_36 u_38 g_37 H locs eg_37 h hw
  have h := h g_37 eg_37
  refine lv_istore (lv' := [(4, .int r_36), (3, .int r_33), (0, .ref (ad 19)), (1, .int x1), (2, .int x2)]) hx hb dX1_list_17 hl (by decide) rfl (fun ls hl => ?_)
  refine lv_iload_n hx hb dX1_list_19 rfl (lv_at hl 1 rfl) ?_
  refine cSI ksX1_49 hC (m_X10_tag l r_33 h) rfl rfl ⟨(show 0 + 1 ≤ 8 * d + (10 + 3) by omega), (show 8 + (1 + 11) + (0) ≤ 200 * d + (300 + 73) by omega)⟩ rfl hl.1 (Nat.le_of_ble_eq_true rfl) dX1_list_20 ⟨Nat.zero_le _, Nat.zero_le _⟩ rfl ?_
  intro r_39 h
  refine lv_iconst (v := (3 : Int32)) hx hb dX1_list_23 (by decide) ?_
  refine lv_icmp_ne (tgt := 41) hx hb dX1_list_24 (by decide) (fun c_40 => ?_) (fun c_40 => ?_)
  · have h := h.1 c_40
    refine lv_iconst (v := (0 : Int32)) hx hb dX1_list_41 (by decide) ?_
    exact w_42 n x1 x2 r_36 (0 : Int32) g_37 _ _ _ h hw (lv_sub hl [2, 3, 4, 0] rfl)
  · have h := h.2 c_40
    refine lv_aload_n hx hb dX1_list_27 rfl (lv_at hl 2 rfl) ?_
    refine gt (v := .ref (ad 1)) kfX1_28 19 hC hw rfl rfl dX1_list_28 ?_
    refine lv_iload_n hx hb dX1_list_31 rfl (lv_at hl 1 rfl) ?_
    refine cSI ksX1_70 hC (m_X10_held l r_33 h) rfl rfl ⟨(show 0 + 1 ≤ 8 * d + (10 + 3) by omega), (show 8 + (1 + 11) + (0) ≤ 200 * d + (300 + 73) by omega)⟩ rfl hl.1 (Nat.le_of_ble_eq_true rfl) dX1_list_32 ⟨Nat.zero_le _, Nat.zero_le _⟩ rfl ?_
    intro r_41 h
    refine eI_wT_wSy_1 kmX1_73 hC hw (m_X9_operator l D cI cC cZ cJ (fun j => ad (1 + j)) r_41 (g_37 1) h) rfl rfl ⟨(show 1 + 1 ≤ 8 * d + (10 + 3) by omega), (show 8 + (2 + 11) + (21) ≤ 200 * d + (300 + 73) by omega)⟩ rfl hl.1 (Nat.le_of_ble_eq_true rfl) dX1_list_35 ⟨Nat.zero_le _, Nat.zero_le _⟩ rfl ?_
    intro r_42 u_44 g_43 H locs eg_43 h hw
    have h := h g_43 eg_43
    refine lv_goto (tgt := 42) hx hb dX1_list_38 (by decide) ?_
    exact w_42 n x1 x2 r_36 r_42 g_43 _ _ _ h hw (lv_sub hl [2, 3, 4, 0] rfl)
def V_X1_evaluation (N n : Nat) : Nat → Int32 → Int32 → SG → (Int32 → SG → Prop) → Prop
  | 0, _, _, _, _ => False
  | d + 1, x1, x2, G, post => ((x2 ≤ (12 : Int32) → V_X1_emit N (1 : Int32) G (fun g_3 => V_X10_tag x1 (fun r_4 => ((r_4 = (3 : Int32) → V_X1_emitFor N n x1 (3 : Int32) (5 : Int32) g_3 (fun g_7 => post (1 : Int32) g_7)) ∧ (r_4 = (4 : Int32) → V_X1_list N n (fun a b G p => V_X1_evaluation N n d a b G p) x1 x2 g_3 (fun r_8 g_9 => ((r_8 = 0 ∨ r_8 = 1) ∧ post r_8 g_9))) ∧ (¬ r_4 = (3 : Int32) → ¬ r_4 = (4 : Int32) → V_X1_emit_ N (2 : Int32) x1 g_3 (fun g_11 => post (1 : Int32) g_11)))))) ∧ (¬ x2 ≤ (12 : Int32) → post (0 : Int32) G))
set_option maxHeartbeats 4000000 in
set_option maxRecDepth 100000 in
theorem m_X1_evaluation (l : Launch) (D : va_G) (cI cC cZ cJ : ClassId) (ad : Nat → Nat) (N : Nat) (ea : Nat → Nat → Nat) (n : Nat) : ∀ (d : Nat) (x1 x2 : Int32) (G : SG) {post : Int32 → SG → Prop}, V_X1_evaluation N n d x1 x2 G post → MetIE ea l yX1_evaluation cX1_evaluation 3 .boolean (RM_X1_evaluation d) D (ty4 cI cC cZ cJ) (wT ad cI cC cZ cJ N G) [.ref (ad 19), .int x1, .int x2] (fun u : SG => (wT ad cI cC cZ cJ N u)) post := by
  intro d
  induction d with
  | zero =>
    intro x1 x2 G post h
    exact False.elim h
  | succ d ih =>
    intro x1 x2 G post h
    refine mkIE (by decide) (Nat.le_of_ble_eq_true rfl) ?_
    intro p e s m args below meth c A ls hC hr hlk hw hE hl
    have hx := hC.1
    have hb := hC.2.1
    have hl : lv_has ls 3 [(0, .ref (ad 19)), (1, .int x1), (2, .int x2)] := hl
    rw [V_X1_evaluation] at h
    refine lv_iload_n hx hb dX1_evaluation_0 rfl (lv_at hl 2 rfl) ?_
    refine lv_bipush (v := (12 : Int32)) hx hb dX1_evaluation_1 (by decide) ?_
    refine lv_icmp_le (tgt := 8) hx hb dX1_evaluation_3 (by decide) (fun c_1 => ?_) (fun c_1 => ?_)
    · have h := h.1 c_1
      refine lv_aload_n hx hb dX1_evaluation_8 rfl (lv_at hl 0 rfl) ?_
      refine lv_iconst (v := (1 : Int32)) hx hb dX1_evaluation_9 (by decide) ?_
      refine cVVwe kmX1_43 hC hw hE (m_X1_emit l D cI cC cZ cJ ad N ea (1 : Int32) G h) rfl rfl ⟨(show 0 + 1 ≤ 8 * (d + 1) + (10 + 0) by omega), (show 8 + (2 + 11) + (0) ≤ 200 * (d + 1) + (300 + 0) by omega)⟩ (recvW hw rfl 19 rfl) rfl hl.1 (Nat.le_of_ble_eq_true rfl) dX1_evaluation_10 ⟨Nat.zero_le _, Nat.zero_le _⟩ rfl ?_
      intro g_3 H locs h hw
      refine lv_iload_n hx hb dX1_evaluation_13 rfl (lv_at hl 1 rfl) ?_
      refine cSI ksX1_49 hC (m_X10_tag l x1 h) rfl rfl ⟨(show 0 + 1 ≤ 8 * (d + 1) + (10 + 0) by omega), (show 8 + (1 + 11) + (0) ≤ 200 * (d + 1) + (300 + 0) by omega)⟩ rfl hl.1 (Nat.le_of_ble_eq_true rfl) dX1_evaluation_14 ⟨Nat.zero_le _, Nat.zero_le _⟩ rfl ?_
      intro r_4 h
      by_cases c_5_3 : r_4 = (3 : Int32)
      · refine lv_lookup (off := 34) (tgt := 51) hx hb dX1_evaluation_17 (by decide) (by rw [c_5_3]; decide) (by decide) ?_
        have h := h.1 c_5_3
        refine lv_aload_n hx hb dX1_evaluation_51 rfl (lv_at hl 0 rfl) ?_
        refine lv_iload_n hx hb dX1_evaluation_52 rfl (lv_at hl 1 rfl) ?_
        refine lv_iconst (v := (3 : Int32)) hx hb dX1_evaluation_53 (by decide) ?_
        refine lv_iconst (v := (5 : Int32)) hx hb dX1_evaluation_54 (by decide) ?_
        refine cVVwe kmX1_58 hC hw hE (m_X1_emitFor l D cI cC cZ cJ ad N ea n x1 (3 : Int32) (5 : Int32) g_3 h) rfl rfl ⟨(show 3 + 1 ≤ 8 * (d + 1) + (10 + 0) by omega), (show 8 + (6 + 11) + (66) ≤ 200 * (d + 1) + (300 + 0) by omega)⟩ (recvW hw rfl 19 rfl) rfl hl.1 (Nat.le_of_ble_eq_true rfl) dX1_evaluation_55 ⟨Nat.zero_le _, Nat.zero_le _⟩ rfl ?_
        intro g_7 H locs h hw
        refine lv_iconst (v := (1 : Int32)) hx hb dX1_evaluation_58 (by decide) ?_
        exact rtI (wf := (fun u : SG => (wT ad cI cC cZ cJ N u))) g_7 hC hr hlk hw (by decide) h dX1_evaluation_59
      have h := h.2
      by_cases c_5_4 : r_4 = (4 : Int32)
      · refine lv_lookup (off := 27) (tgt := 44) hx hb dX1_evaluation_17 (by decide) (by rw [c_5_4]; decide) (by decide) ?_
        have h := h.1 c_5_4
        refine lv_aload_n hx hb dX1_evaluation_44 rfl (lv_at hl 0 rfl) ?_
        refine lv_iload_n hx hb dX1_evaluation_45 rfl (lv_at hl 1 rfl) ?_
        refine lv_iload_n hx hb dX1_evaluation_46 rfl (lv_at hl 2 rfl) ?_
        refine cVIwe kmX1_55 hC hw hE (m_X1_list l D cI cC cZ cJ ad N ea n d _ (fun a b G p hp => ih a b G hp) x1 x2 g_3 h) rfl rfl ⟨(show 8 * d + (10 + 3) + 1 ≤ 8 * (d + 1) + (10 + 0) by omega), (show 8 + (8 + 11) + (200 * d + (300 + 73)) ≤ 200 * (d + 1) + (300 + 0) by omega)⟩ (recvW hw rfl 19 rfl) rfl hl.1 (Nat.le_of_ble_eq_true rfl) dX1_evaluation_47 ⟨Nat.zero_le _, Nat.zero_le _⟩ rfl ?_
        intro r_8 g_9 H locs h hw
        exact rtI (wf := (fun u : SG => (wT ad cI cC cZ cJ N u))) g_9 hC hr hlk hw (nz h.1).1 h.2 dX1_evaluation_50
      have h := h.2
      refine lv_lookup (off := 43) (tgt := 60) hx hb dX1_evaluation_17 (by decide) (by refine (lv_osw c_5_3 (by decide)).trans ?_; refine (lv_osw c_5_4 (by decide)).trans ?_; rfl) (by decide) ?_
      have h := h c_5_3 c_5_4
      refine lv_aload_n hx hb dX1_evaluation_60 rfl (lv_at hl 0 rfl) ?_
      refine lv_iconst (v := (2 : Int32)) hx hb dX1_evaluation_61 (by decide) ?_
      refine lv_iload_n hx hb dX1_evaluation_62 rfl (lv_at hl 1 rfl) ?_
      refine cVVwe kmX1_46 hC hw hE (m_X1_emit_ l D cI cC cZ cJ ad N ea (2 : Int32) x1 g_3 h) rfl rfl ⟨(show 1 + 1 ≤ 8 * (d + 1) + (10 + 0) by omega), (show 8 + (3 + 11) + (21) ≤ 200 * (d + 1) + (300 + 0) by omega)⟩ (recvW hw rfl 19 rfl) rfl hl.1 (Nat.le_of_ble_eq_true rfl) dX1_evaluation_63 ⟨Nat.zero_le _, Nat.zero_le _⟩ rfl ?_
      intro g_11 H locs h hw
      refine lv_iconst (v := (1 : Int32)) hx hb dX1_evaluation_66 (by decide) ?_
      exact rtI (wf := (fun u : SG => (wT ad cI cC cZ cJ N u))) g_11 hC hr hlk hw (by decide) h dX1_evaluation_67
    · have h := h.2 c_1
      refine lv_iconst (v := (0 : Int32)) hx hb dX1_evaluation_6 (by decide) ?_
      exact rtI (wf := (fun u : SG => (wT ad cI cC cZ cJ N u))) G hC hr hlk hw (by decide) h dX1_evaluation_7
def V_X1_compile (N : Nat) (n : Nat) (x1 : Int32) (G : SG) (post : Int32 → SG → Prop) : Prop := ∀ x_1 : Int32, x_1 = (G 7 0 0) → V_X8_cut 12 (0 : Int32) (G 8) (fun u_4 => ∀ g_3 : SG, g_3 = uo G 8 u_4 → V_X1_evaluation N n 14 x1 (0 : Int32) g_3 (fun r_5 g_6 => V_X1_emit N (0 : Int32) g_6 (fun g_8 => ((r_5 = 0 → ∀ g_10 : SG, g_10 = uo g_8 7 (us (g_8 7) 0 x_1) → post (-1 : Int32) g_10) ∧ (¬ r_5 = 0 → (((g_8 7 0 0) < (1536 : Int32) → post x_1 g_8) ∧ (¬ (g_8 7 0 0) < (1536 : Int32) → ∀ g_12 : SG, g_12 = uo g_8 7 (us (g_8 7) 0 x_1) → post (-1 : Int32) g_12)))))))
abbrev RM_X1_compile : Room := { frames := 123, cells := 0, slots := 0, locals := 3122 }
set_option maxHeartbeats 4000000 in
set_option maxRecDepth 100000 in
theorem m_X1_compile (l : Launch) (D : va_G) (cI cC cZ cJ : ClassId) (ad : Nat → Nat) (N : Nat) (ea : Nat → Nat → Nat) (n : Nat) (x1 : Int32) (G : SG) {post : Int32 → SG → Prop} (h : V_X1_compile N n x1 G post) : MetIE ea l yX1_compile cX1_compile 4 .int RM_X1_compile D (ty4 cI cC cZ cJ) (wT ad cI cC cZ cJ N G) [.ref (ad 19), .int x1] (fun u : SG => (wT ad cI cC cZ cJ N u)) post := by
  refine mkIE (by decide) (Nat.le_of_ble_eq_true rfl) ?_
  intro p e s m args below meth c A ls hC hr hlk hw hE hl
  have hx := hC.1
  have hb := hC.2.1
  have hl : lv_has ls 4 [(0, .ref (ad 19)), (1, .int x1)] := hl
  unfold V_X1_compile at h
  refine lv_aload_n hx hb dX1_compile_0 rfl (lv_at hl 0 rfl) ?_
  refine gt (v := .int (G 7 0 0)) kfX1_32 19 hC hw rfl rfl dX1_compile_1 ?_
  refine lv_topi (fun x_1 ex_1 => ?_)
  have h := h x_1 ex_1
  refine lv_istore_n (lv' := [(2, .int x_1), (0, .ref (ad 19)), (1, .int x1)]) hx hb dX1_compile_4 rfl hl (by decide) rfl (fun ls hl => ?_)
  refine lv_aload_n hx hb dX1_compile_5 rfl (lv_at hl 1 rfl) ?_
  refine gt (v := .ref (ad 21)) kfX1_20 19 hC hw rfl rfl dX1_compile_6 ?_
  refine lv_iconst (v := (0 : Int32)) hx hb dX1_compile_9 (by decide) ?_
  refine eV_wT_wSt_21 kmX1_36 hC hw (m_X8_cut l D cI cC cZ cJ (fun j => ad (21 + j)) 12 (0 : Int32) (G 8) h) rfl rfl ⟨by decide, by decide⟩ rfl hl.1 (Nat.le_of_ble_eq_true rfl) dX1_compile_10 ⟨Nat.zero_le _, Nat.zero_le _⟩ rfl ?_
  intro u_4 g_3 H locs eg_3 h hw
  have h := h g_3 eg_3
  refine lv_aload_n hx hb dX1_compile_13 rfl (lv_at hl 1 rfl) ?_
  refine lv_iload_n hx hb dX1_compile_14 rfl (lv_at hl 2 rfl) ?_
  refine lv_iconst (v := (0 : Int32)) hx hb dX1_compile_15 (by decide) ?_
  refine cVIwe kmX1_39 hC hw hE (m_X1_evaluation l D cI cC cZ cJ ad N ea n 14 x1 (0 : Int32) g_3 h) rfl rfl ⟨by decide, by decide⟩ (recvW hw rfl 19 rfl) rfl hl.1 (Nat.le_of_ble_eq_true rfl) dX1_compile_16 ⟨Nat.zero_le _, Nat.zero_le _⟩ rfl ?_
  intro r_5 g_6 H locs h hw
  refine lv_istore_n (lv' := [(3, .int r_5), (2, .int x_1), (0, .ref (ad 19)), (1, .int x1)]) hx hb dX1_compile_19 rfl hl (by decide) rfl (fun ls hl => ?_)
  refine lv_aload_n hx hb dX1_compile_20 rfl (lv_at hl 2 rfl) ?_
  refine lv_iconst (v := (0 : Int32)) hx hb dX1_compile_21 (by decide) ?_
  refine cVVwe kmX1_43 hC hw hE (m_X1_emit l D cI cC cZ cJ ad N ea (0 : Int32) g_6 h) rfl rfl ⟨by decide, by decide⟩ (recvW hw rfl 19 rfl) rfl hl.1 (Nat.le_of_ble_eq_true rfl) dX1_compile_22 ⟨Nat.zero_le _, Nat.zero_le _⟩ rfl ?_
  intro g_8 H locs h hw
  refine lv_iload_n hx hb dX1_compile_25 rfl (lv_at hl 0 rfl) ?_
  refine lv_if_eq (tgt := 41) hx hb dX1_compile_26 (by decide) (fun c_9 => ?_) (fun c_9 => ?_)
  · have h := h.1 c_9
    refine lv_aload_n hx hb dX1_compile_41 rfl (lv_at hl 2 rfl) ?_
    refine lv_iload_n hx hb dX1_compile_42 rfl (lv_at hl 1 rfl) ?_
    refine pwT_19_3 kpX1_32 hC hw dX1_compile_43 (fun H locs g_10 eg_10 hw => ?_)
    have h := h g_10 eg_10
    refine lv_iconst (v := (-1 : Int32)) hx hb dX1_compile_46 (by decide) ?_
    exact rtI (wf := (fun u : SG => (wT ad cI cC cZ cJ N u))) g_10 hC hr hlk hw rfl h dX1_compile_47
  · have h := h.2 c_9
    refine lv_aload_n hx hb dX1_compile_29 rfl (lv_at hl 2 rfl) ?_
    refine gt (v := .int (g_8 7 0 0)) kfX1_32 19 hC hw rfl rfl dX1_compile_30 ?_
    refine lv_aload_n hx hb dX1_compile_33 rfl (lv_at hl 2 rfl) ?_
    refine gt (v := .ref (ad 20)) kfX1_11 19 hC hw rfl rfl dX1_compile_34 ?_
    refine aln 20 0 (v := (1536 : Int32)) hC hw rfl rfl (show Int32.ofNat 1536 = (1536 : Int32) by decide) dX1_compile_37 ?_
    refine lv_icmp_lt (tgt := 48) hx hb dX1_compile_38 (by decide) (fun c_11 => ?_) (fun c_11 => ?_)
    · have h := h.1 c_11
      refine lv_iload_n hx hb dX1_compile_48 rfl (lv_at hl 1 rfl) ?_
      exact rtI (wf := (fun u : SG => (wT ad cI cC cZ cJ N u))) g_8 hC hr hlk hw rfl h dX1_compile_49
    · have h := h.2 c_11
      refine lv_aload_n hx hb dX1_compile_41 rfl (lv_at hl 2 rfl) ?_
      refine lv_iload_n hx hb dX1_compile_42 rfl (lv_at hl 1 rfl) ?_
      refine pwT_19_3 kpX1_32 hC hw dX1_compile_43 (fun H locs g_12 eg_12 hw => ?_)
      have h := h g_12 eg_12
      refine lv_iconst (v := (-1 : Int32)) hx hb dX1_compile_46 (by decide) ?_
      exact rtI (wf := (fun u : SG => (wT ad cI cC cZ cJ N u))) g_12 hC hr hlk hw rfl h dX1_compile_47
