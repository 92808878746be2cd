def V_X10_of (x0 : Int32) (x1 : Int32) (post : Int32 → Prop) : Prop := post ((x1 <<< ((4 : Int32) &&& 31)) ||| x0)
abbrev RM_X10_of : Room := { frames := 0, cells := 0, slots := 0, locals := 0 }
set_option maxHeartbeats 4000000 in
set_option maxRecDepth 100000 in
theorem m_X10_of (l : Launch) (x0 : Int32) (x1 : Int32) {post : Int32 → Prop} (h : V_X10_of x0 x1 post) : MetS l yX10_of cX10_of 2 .int RM_X10_of [.int x0, .int x1] post := by
  refine mkS (by decide) (Nat.le_of_ble_eq_true rfl) ?_
  intro p e s m args below meth c ls hC hr hlk hl
  have hx := hC.1
  have hb := hC.2.1
  have hl : lv_has ls 2 [(0, .int x0), (1, .int x1)] := hl
  unfold V_X10_of at h
  refine lv_iload_n hx hb dX10_of_0 rfl (lv_at hl 1 rfl) ?_
  refine lv_iconst (v := (4 : Int32)) hx hb dX10_of_1 (by decide) ?_
  refine lv_ishl hx hb dX10_of_2 ?_
  refine lv_iload_n hx hb dX10_of_3 rfl (lv_at hl 0 rfl) ?_
  refine lv_ior hx hb dX10_of_4 ?_
  exact rtS hC hr hlk rfl h dX10_of_5
def V_X10_tag (x0 : Int32) (post : Int32 → Prop) : Prop := post (x0 &&& (15 : Int32))
abbrev RM_X10_tag : Room := { frames := 0, cells := 0, slots := 0, locals := 0 }
set_option maxHeartbeats 4000000 in
set_option maxRecDepth 100000 in
theorem m_X10_tag (l : Launch) (x0 : Int32) {post : Int32 → Prop} (h : V_X10_tag x0 post) : MetS l yX10_tag cX10_tag 1 .int RM_X10_tag [.int x0] post := by
  refine mkS (by decide) (Nat.le_of_ble_eq_true rfl) ?_
  intro p e s m args below meth c ls hC hr hlk hl
  have hx := hC.1
  have hb := hC.2.1
  have hl : lv_has ls 1 [(0, .int x0)] := hl
  unfold V_X10_tag at h
  refine lv_iload_n hx hb dX10_tag_0 rfl (lv_at hl 0 rfl) ?_
  refine lv_bipush (v := (15 : Int32)) hx hb dX10_tag_1 (by decide) ?_
  refine lv_iand hx hb dX10_tag_3 ?_
  exact rtS hC hr hlk rfl h dX10_tag_4
def V_X10_held (x0 : Int32) (post : Int32 → Prop) : Prop := post (x0 >>> ((4 : Int32) &&& 31))
abbrev RM_X10_held : Room := { frames := 0, cells := 0, slots := 0, locals := 0 }
set_option maxHeartbeats 4000000 in
set_option maxRecDepth 100000 in
theorem m_X10_held (l : Launch) (x0 : Int32) {post : Int32 → Prop} (h : V_X10_held x0 post) : MetS l yX10_held cX10_held 1 .int RM_X10_held [.int x0] post := by
  refine mkS (by decide) (Nat.le_of_ble_eq_true rfl) ?_
  intro p e s m args below meth c ls hC hr hlk hl
  have hx := hC.1
  have hb := hC.2.1
  have hl : lv_has ls 1 [(0, .int x0)] := hl
  unfold V_X10_held at h
  refine lv_iload_n hx hb dX10_held_0 rfl (lv_at hl 0 rfl) ?_
  refine lv_iconst (v := (4 : Int32)) hx hb dX10_held_1 (by decide) ?_
  refine lv_ishr hx hb dX10_held_2 ?_
  exact rtS hC hr hlk rfl h dX10_held_3
def V_X8_cut (N : Nat) (x1 : Int32) (g : St) (post : St → Prop) : Prop := ((x1 < 0 → post g) ∧ (¬ x1 < 0 → (((g 0 0) ≤ x1 → post g) ∧ (¬ (g 0 0) ≤ x1 → ∀ g_3 : St, g_3 = us g 0 x1 → post g_3))))
abbrev RM_X8_cut : Room := { frames := 0, cells := 0, slots := 0, locals := 0 }
set_option maxHeartbeats 4000000 in
set_option maxRecDepth 100000 in
theorem m_X8_cut (l : Launch) (D : va_G) (cI cC cZ cJ : ClassId) (ad : Nat → Nat) (N : Nat) (x1 : Int32) (g : St) {post : St → Prop} (h : V_X8_cut N x1 g post) : MetV l yX8_cut cX8_cut 2 RM_X8_cut D (ty4 cI cC cZ cJ) (wSt ad cI N g) [.ref (ad 0), .int x1] (fun u : St => (wSt ad cI N u)) post := by
  refine mkV (by decide) (Nat.le_of_ble_eq_true rfl) ?_
  intro p e s m args below meth c A ls hC hr hlk hw hl
  have hx := hC.1
  have hb := hC.2.1
  have hl : lv_has ls 2 [(0, .ref (ad 0)), (1, .int x1)] := hl
  unfold V_X8_cut at h
  refine lv_iload_n hx hb dX8_cut_0 rfl (lv_at hl 1 rfl) ?_
  refine lv_if_lt (tgt := 17) hx hb dX8_cut_1 (by decide) (fun c_1 => ?_) (fun c_1 => ?_)
  · have h := h.1 c_1
    exact rtV (wf := (fun u : St => (wSt ad cI N u))) g hC hr hlk hw h dX8_cut_17
  · have h := h.2 c_1
    refine lv_iload_n hx hb dX8_cut_4 rfl (lv_at hl 1 rfl) ?_
    refine lv_aload_n hx hb dX8_cut_5 rfl (lv_at hl 0 rfl) ?_
    refine gt (v := .int (g 0 0)) kfX8_19 0 hC hw rfl rfl dX8_cut_6 ?_
    refine lv_icmp_ge (tgt := 17) hx hb dX8_cut_9 (by decide) (fun c_2 => ?_) (fun c_2 => ?_)
    · have h := h.1 c_2
      exact rtV (wf := (fun u : St => (wSt ad cI N u))) g hC hr hlk hw h dX8_cut_17
    · have h := h.2 c_2
      refine lv_aload_n hx hb dX8_cut_12 rfl (lv_at hl 0 rfl) ?_
      refine lv_iload_n hx hb dX8_cut_13 rfl (lv_at hl 1 rfl) ?_
      refine pwSt_1 kpX8_19 hC hw dX8_cut_14 (fun H locs g_3 eg_3 hw => ?_)
      have h := h g_3 eg_3
      exact rtV (wf := (fun u : St => (wSt ad cI N u))) g_3 hC hr hlk hw h dX8_cut_17
def V_X8_at (N : Nat) (x1 : Int32) (g : St) (post : Int32 → St → Prop) : Prop := ((x1 < 0 → post (1 : Int32) g) ∧ (¬ x1 < 0 → (((g 0 0) ≤ x1 → post (1 : Int32) g) ∧ (¬ (g 0 0) ≤ x1 → (((Int32.ofNat N) ≤ x1 → post (1 : Int32) g) ∧ (¬ (Int32.ofNat N) ≤ x1 → (vp_in x1 N ∧ post (g 1 x1.toNatClampNeg) g)))))))
abbrev RM_X8_at : Room := { frames := 0, cells := 0, slots := 0, locals := 0 }
set_option maxHeartbeats 4000000 in
set_option maxRecDepth 100000 in
theorem m_X8_at (l : Launch) (D : va_G) (cI cC cZ cJ : ClassId) (ad : Nat → Nat) (N : Nat) (x1 : Int32) (g : St) {post : Int32 → St → Prop} (h : V_X8_at N x1 g post) : MetI l yX8_at cX8_at 2 .int RM_X8_at D (ty4 cI cC cZ cJ) (wSt ad cI N g) [.ref (ad 0), .int x1] (fun u : St => (wSt ad cI N u)) post := by
  refine mkI (by decide) (Nat.le_of_ble_eq_true rfl) ?_
  intro p e s m args below meth c A ls hC hr hlk hw hl
  have hx := hC.1
  have hb := hC.2.1
  have hl : lv_has ls 2 [(0, .ref (ad 0)), (1, .int x1)] := hl
  unfold V_X8_at at h
  refine lv_iload_n hx hb dX8_at_0 rfl (lv_at hl 1 rfl) ?_
  refine lv_if_lt (tgt := 30) hx hb dX8_at_1 (by decide) (fun c_1 => ?_) (fun c_1 => ?_)
  · have h := h.1 c_1
    refine lv_iconst (v := (1 : Int32)) hx hb dX8_at_30 (by decide) ?_
    exact rtI (wf := (fun u : St => (wSt ad cI N u))) g hC hr hlk hw rfl h dX8_at_31
  · have h := h.2 c_1
    refine lv_iload_n hx hb dX8_at_4 rfl (lv_at hl 1 rfl) ?_
    refine lv_aload_n hx hb dX8_at_5 rfl (lv_at hl 0 rfl) ?_
    refine gt (v := .int (g 0 0)) kfX8_19 0 hC hw rfl rfl dX8_at_6 ?_
    refine lv_icmp_ge (tgt := 30) hx hb dX8_at_9 (by decide) (fun c_2 => ?_) (fun c_2 => ?_)
    · have h := h.1 c_2
      refine lv_iconst (v := (1 : Int32)) hx hb dX8_at_30 (by decide) ?_
      exact rtI (wf := (fun u : St => (wSt ad cI N u))) g hC hr hlk hw rfl h dX8_at_31
    · have h := h.2 c_2
      refine lv_iload_n hx hb dX8_at_12 rfl (lv_at hl 1 rfl) ?_
      refine lv_aload_n hx hb dX8_at_13 rfl (lv_at hl 0 rfl) ?_
      refine gt (v := .ref (ad 1)) kfX8_13 0 hC hw rfl rfl dX8_at_14 ?_
      refine aln 1 0 (v := (Int32.ofNat N)) hC hw rfl rfl rfl dX8_at_17 ?_
      refine lv_icmp_ge (tgt := 30) hx hb dX8_at_18 (by decide) (fun c_3 => ?_) (fun c_3 => ?_)
      · have h := h.1 c_3
        refine lv_iconst (v := (1 : Int32)) hx hb dX8_at_30 (by decide) ?_
        exact rtI (wf := (fun u : St => (wSt ad cI N u))) g hC hr hlk hw rfl h dX8_at_31
      · have h := h.2 c_3
        refine lv_aload_n hx hb dX8_at_21 rfl (lv_at hl 0 rfl) ?_
        refine gt (v := .ref (ad 1)) kfX8_13 0 hC hw rfl rfl dX8_at_22 ?_
        refine lv_iload_n hx hb dX8_at_25 rfl (lv_at hl 1 rfl) ?_
        refine ldI 1 0 hC hw rfl rfl h.1 dX8_at_26 ?_
        have h := h.2
        refine lv_goto (tgt := 31) hx hb dX8_at_27 (by decide) ?_
        exact rtI (wf := (fun u : St => (wSt ad cI N u))) g hC hr hlk hw rfl h dX8_at_31
def V_X8_peek (N : Nat) (x1 : Int32) (g : St) (post : Int32 → St → Prop) : Prop := V_X8_at N (((g 0 0) - (1 : Int32)) - x1) g (fun r_2 g_1 => post r_2 g_1)
abbrev RM_X8_peek : Room := { frames := 1, cells := 0, slots := 0, locals := 21 }
set_option maxHeartbeats 4000000 in
set_option maxRecDepth 100000 in
theorem m_X8_peek (l : Launch) (D : va_G) (cI cC cZ cJ : ClassId) (ad : Nat → Nat) (N : Nat) (x1 : Int32) (g : St) {post : Int32 → St → Prop} (h : V_X8_peek N x1 g post) : MetI l yX8_peek cX8_peek 2 .int RM_X8_peek D (ty4 cI cC cZ cJ) (wSt ad cI N g) [.ref (ad 0), .int x1] (fun u : St => (wSt ad cI N u)) post := by
  refine mkI (by decide) (Nat.le_of_ble_eq_true rfl) ?_
  intro p e s m args below meth c A ls hC hr hlk hw hl
  have hx := hC.1
  have hb := hC.2.1
  have hl : lv_has ls 2 [(0, .ref (ad 0)), (1, .int x1)] := hl
  unfold V_X8_peek at h
  refine lv_aload_n hx hb dX8_peek_0 rfl (lv_at hl 0 rfl) ?_
  refine lv_aload_n hx hb dX8_peek_1 rfl (lv_at hl 0 rfl) ?_
  refine gt (v := .int (g 0 0)) kfX8_19 0 hC hw rfl rfl dX8_peek_2 ?_
  refine lv_iconst (v := (1 : Int32)) hx hb dX8_peek_5 (by decide) ?_
  refine lv_isub hx hb dX8_peek_6 ?_
  refine lv_iload_n hx hb dX8_peek_7 rfl (lv_at hl 1 rfl) ?_
  refine lv_isub hx hb dX8_peek_8 ?_
  refine cVIw (q0 := 0) kmX8_31 hC hw (m_X8_at l D cI cC cZ cJ ad N (((g 0 0) - (1 : Int32)) - x1) g h) rfl rfl ⟨by decide, by decide⟩ rfl rfl rfl hl.1 (Nat.le_of_ble_eq_true rfl) dX8_peek_9 ⟨Nat.zero_le _, Nat.zero_le _⟩ rfl ?_
  intro r_2 g_1 H locs h hw
  exact rtI (wf := (fun u : St => (wSt ad cI N u))) g_1 hC hr hlk hw rfl h dX8_peek_12
def V_X8_push (N : Nat) (x1 : Int32) (g : St) (post : St → Prop) : Prop := (((Int32.ofNat N) ≤ (g 0 0) → post g) ∧ (¬ (Int32.ofNat N) ≤ (g 0 0) → (vp_in (g 0 0) N ∧ ∀ g_2 : St, g_2 = up g 1 (g 0 0).toNatClampNeg x1 → ∀ g_3 : St, g_3 = us g_2 0 ((g_2 0 0) + (1 : Int32)) → post g_3)))
abbrev RM_X8_push : Room := { frames := 0, cells := 0, slots := 0, locals := 0 }
set_option maxHeartbeats 4000000 in
set_option maxRecDepth 100000 in
theorem m_X8_push (l : Launch) (D : va_G) (cI cC cZ cJ : ClassId) (ad : Nat → Nat) (N : Nat) (x1 : Int32) (g : St) {post : St → Prop} (h : V_X8_push N x1 g post) : MetV l yX8_push cX8_push 2 RM_X8_push D (ty4 cI cC cZ cJ) (wSt ad cI N g) [.ref (ad 0), .int x1] (fun u : St => (wSt ad cI N u)) post := by
  refine mkV (by decide) (Nat.le_of_ble_eq_true rfl) ?_
  intro p e s m args below meth c A ls hC hr hlk hw hl
  have hx := hC.1
  have hb := hC.2.1
  have hl : lv_has ls 2 [(0, .ref (ad 0)), (1, .int x1)] := hl
  unfold V_X8_push at h
  refine lv_aload_n hx hb dX8_push_0 rfl (lv_at hl 0 rfl) ?_
  refine gt (v := .int (g 0 0)) kfX8_19 0 hC hw rfl rfl dX8_push_1 ?_
  refine lv_aload_n hx hb dX8_push_4 rfl (lv_at hl 0 rfl) ?_
  refine gt (v := .ref (ad 1)) kfX8_13 0 hC hw rfl rfl dX8_push_5 ?_
  refine aln 1 0 (v := (Int32.ofNat N)) hC hw rfl rfl rfl dX8_push_8 ?_
  refine lv_icmp_ge (tgt := 32) hx hb dX8_push_9 (by decide) (fun c_1 => ?_) (fun c_1 => ?_)
  · have h := h.1 c_1
    exact rtV (wf := (fun u : St => (wSt ad cI N u))) g hC hr hlk hw h dX8_push_32
  · have h := h.2 c_1
    refine lv_aload_n hx hb dX8_push_12 rfl (lv_at hl 0 rfl) ?_
    refine gt (v := .ref (ad 1)) kfX8_13 0 hC hw rfl rfl dX8_push_13 ?_
    refine lv_aload_n hx hb dX8_push_16 rfl (lv_at hl 0 rfl) ?_
    refine gt (v := .int (g 0 0)) kfX8_19 0 hC hw rfl rfl dX8_push_17 ?_
    refine lv_iload_n hx hb dX8_push_20 rfl (lv_at hl 1 rfl) ?_
    refine swSt_1 h.1 hC hw dX8_push_21 (fun H locs g_2 eg_2 hw => ?_)
    have h := h.2 g_2 eg_2
    refine lv_aload_n hx hb dX8_push_22 rfl (lv_at hl 0 rfl) ?_
    refine lv_dup hx hb dX8_push_23 rfl ?_
    refine gt (v := .int (g_2 0 0)) kfX8_19 0 hC hw rfl rfl dX8_push_24 ?_
    refine lv_iconst (v := (1 : Int32)) hx hb dX8_push_27 (by decide) ?_
    refine lv_iadd hx hb dX8_push_28 ?_
    refine pwSt_1 kpX8_19 hC hw dX8_push_29 (fun H locs g_3 eg_3 hw => ?_)
    have h := h g_3 eg_3
    exact rtV (wf := (fun u : St => (wSt ad cI N u))) g_3 hC hr hlk hw h dX8_push_32
def V_X8_pop (N : Nat) (g : St) (post : Int32 → St → Prop) : Prop := V_X8_peek N (0 : Int32) g (fun r_2 g_1 => V_X8_cut N ((g_1 0 0) - (1 : Int32)) g_1 (fun g_3 => post r_2 g_3))
abbrev RM_X8_pop : Room := { frames := 2, cells := 0, slots := 0, locals := 42 }
set_option maxHeartbeats 4000000 in
set_option maxRecDepth 100000 in
theorem m_X8_pop (l : Launch) (D : va_G) (cI cC cZ cJ : ClassId) (ad : Nat → Nat) (N : Nat) (g : St) {post : Int32 → St → Prop} (h : V_X8_pop N g post) : MetI l yX8_pop cX8_pop 2 .int RM_X8_pop D (ty4 cI cC cZ cJ) (wSt ad cI N g) [.ref (ad 0)] (fun u : St => (wSt ad cI N u)) post := by
  refine mkI (by decide) (Nat.le_of_ble_eq_true rfl) ?_
  intro p e s m args below meth c A ls hC hr hlk hw hl
  have hx := hC.1
  have hb := hC.2.1
  have hl : lv_has ls 2 [(0, .ref (ad 0))] := hl
  unfold V_X8_pop at h
  refine lv_aload_n hx hb dX8_pop_0 rfl (lv_at hl 0 rfl) ?_
  refine lv_iconst (v := (0 : Int32)) hx hb dX8_pop_1 (by decide) ?_
  refine cVIw (q0 := 0) kmX8_23 hC hw (m_X8_peek l D cI cC cZ cJ ad N (0 : Int32) g h) rfl rfl ⟨by decide, by decide⟩ rfl rfl rfl hl.1 (Nat.le_of_ble_eq_true rfl) dX8_pop_2 ⟨Nat.zero_le _, Nat.zero_le _⟩ rfl ?_
  intro r_2 g_1 H locs h hw
  refine lv_istore_n (lv' := [(1, .int r_2), (0, .ref (ad 0))]) hx hb dX8_pop_5 rfl hl (by decide) rfl (fun ls hl => ?_)
  refine lv_aload_n hx hb dX8_pop_6 rfl (lv_at hl 1 rfl) ?_
  refine lv_aload_n hx hb dX8_pop_7 rfl (lv_at hl 1 rfl) ?_
  refine gt (v := .int (g_1 0 0)) kfX8_19 0 hC hw rfl rfl dX8_pop_8 ?_
  refine lv_iconst (v := (1 : Int32)) hx hb dX8_pop_11 (by decide) ?_
  refine lv_isub hx hb dX8_pop_12 ?_
  refine cVVw (q0 := 0) kmX8_27 hC hw (m_X8_cut l D cI cC cZ cJ ad N ((g_1 0 0) - (1 : Int32)) g_1 h) rfl rfl ⟨by decide, by decide⟩ rfl rfl rfl hl.1 (Nat.le_of_ble_eq_true rfl) dX8_pop_13 ⟨Nat.zero_le _, Nat.zero_le _⟩ rfl ?_
  intro g_3 H locs h hw
  refine lv_iload_n hx hb dX8_pop_16 rfl (lv_at hl 0 rfl) ?_
  exact rtI (wf := (fun u : St => (wSt ad cI N u))) g_3 hC hr hlk hw rfl h dX8_pop_17
def V_X5_isFull (N : Nat) (g : St) (post : Int32 → St → Prop) : Prop := (((g 0 1) < (Int32.ofNat N) → post (0 : Int32) g) ∧ (¬ (g 0 1) < (Int32.ofNat N) → post (1 : Int32) g))
abbrev RM_X5_isFull : Room := { frames := 0, cells := 0, slots := 0, locals := 0 }
set_option maxHeartbeats 4000000 in
set_option maxRecDepth 100000 in
theorem m_X5_isFull (l : Launch) (D : va_G) (cI cC cZ cJ : ClassId) (ad : Nat → Nat) (N : Nat) (g : St) {post : Int32 → St → Prop} (h : V_X5_isFull N g post) : MetI l yX5_isFull cX5_isFull 1 .boolean RM_X5_isFull D (ty4 cI cC cZ cJ) (wQu ad cI N g) [.ref (ad 0)] (fun u : St => (wQu ad cI N u)) post := by
  refine mkI (by decide) (Nat.le_of_ble_eq_true rfl) ?_
  intro p e s m args below meth c A ls hC hr hlk hw hl
  have hx := hC.1
  have hb := hC.2.1
  have hl : lv_has ls 1 [(0, .ref (ad 0))] := hl
  unfold V_X5_isFull at h
  refine lv_aload_n hx hb dX5_isFull_0 rfl (lv_at hl 0 rfl) ?_
  refine gt (v := .int (g 0 1)) kfX5_19 0 hC hw rfl rfl dX5_isFull_1 ?_
  refine lv_aload_n hx hb dX5_isFull_4 rfl (lv_at hl 0 rfl) ?_
  refine gt (v := .ref (ad 1)) kfX5_13 0 hC hw rfl rfl dX5_isFull_5 ?_
  refine aln 1 0 (v := (Int32.ofNat N)) hC hw rfl rfl rfl dX5_isFull_8 ?_
  refine lv_icmp_lt (tgt := 16) hx hb dX5_isFull_9 (by decide) (fun c_1 => ?_) (fun c_1 => ?_)
  · have h := h.1 c_1
    refine lv_iconst (v := (0 : Int32)) hx hb dX5_isFull_16 (by decide) ?_
    exact rtI (wf := (fun u : St => (wQu ad cI N u))) g hC hr hlk hw (by decide) h dX5_isFull_17
  · have h := h.2 c_1
    refine lv_iconst (v := (1 : Int32)) hx hb dX5_isFull_12 (by decide) ?_
    refine lv_goto (tgt := 17) hx hb dX5_isFull_13 (by decide) ?_
    exact rtI (wf := (fun u : St => (wQu ad cI N u))) g hC hr hlk hw (by decide) h dX5_isFull_17
def V_X5_add_27 (N : Nat) (post : St → Prop) (x1 : Int32) (x2 : Int32) (g : St) : Prop := (((Int32.ofNat N) ≤ (g 0 1) → post g) ∧ (¬ (Int32.ofNat N) ≤ (g 0 1) → ((x2 < 0 → post g) ∧ (¬ x2 < 0 → (((Int32.ofNat N) ≤ x2 → post g) ∧ (¬ (Int32.ofNat N) ≤ x2 → (vp_in x2 N ∧ ∀ g_4 : St, g_4 = up g 1 x2.toNatClampNeg x1 → ∀ g_5 : St, g_5 = us g_4 1 ((g_4 0 1) + (1 : Int32)) → post g_5)))))))
def V_X5_add (N : Nat) (x1 : Int32) (g : St) (post : St → Prop) : Prop := ∀ x_6 : Int32, x_6 = ((g 0 0) + (g 0 1)) → ((x_6 < (Int32.ofNat N) → V_X5_add_27 N post x1 x_6 g) ∧ (¬ x_6 < (Int32.ofNat N) → ∀ x_8 : Int32, x_8 = (x_6 - (Int32.ofNat N)) → V_X5_add_27 N post x1 x_8 g))
abbrev RM_X5_add : Room := { frames := 0, cells := 0, slots := 0, locals := 0 }
set_option maxHeartbeats 4000000 in
set_option maxRecDepth 100000 in
theorem m_X5_add (l : Launch) (D : va_G) (cI cC cZ cJ : ClassId) (ad : Nat → Nat) (N : Nat) (x1 : Int32) (g : St) {post : St → Prop} (h : V_X5_add N x1 g post) : MetV l yX5_add cX5_add 3 RM_X5_add D (ty4 cI cC cZ cJ) (wQu ad cI N g) [.ref (ad 0), .int x1] (fun u : St => (wQu ad cI N u)) post := by
  refine mkV (by decide) (Nat.le_of_ble_eq_true rfl) ?_
  intro p e s m args below meth c A ls hC hr hlk hw hl
  have hx := hC.1
  have hb := hC.2.1
  have hl : lv_has ls 3 [(0, .ref (ad 0)), (1, .int x1)] := hl
  have w_27 : ∀  (x1 : Int32) (x2 : Int32) (g : St) (H : Heap) (locs : List Loc) (ls : Array Slot), V_X5_add_27 N post x1 x2 g → Wd D (ty4 cI cC cZ cJ) A s (wQu ad cI N g) H locs → lv_has ls 3 [(0, .ref (ad 0)), (1, .int x1), (2, .int x2)] → W p l e RM_X5_add s m args below meth c H locs 0 0 (QV below D (ty4 cI cC cZ cJ) A args s (fun u : St => (wQu ad cI N u)) post) (F0 m 27 ls []) := by
    intro x1 x2 g H locs ls h hw hl
    unfold V_X5_add_27 at h
    refine lv_aload_n hx hb dX5_add_27 rfl (lv_at hl 0 rfl) ?_
    refine gt (v := .int (g 0 1)) kfX5_19 0 hC hw rfl rfl dX5_add_28 ?_
    refine lv_aload_n hx hb dX5_add_31 rfl (lv_at hl 0 rfl) ?_
    refine gt (v := .ref (ad 1)) kfX5_13 0 hC hw rfl rfl dX5_add_32 ?_
    refine aln 1 0 (v := (Int32.ofNat N)) hC hw rfl rfl rfl dX5_add_35 ?_
    refine lv_icmp_ge (tgt := 69) hx hb dX5_add_36 (by decide) (fun c_1 => ?_) (fun c_1 => ?_)
    · have h := h.1 c_1
      exact rtV (wf := (fun u : St => (wQu ad cI N u))) g hC hr hlk hw h dX5_add_69
    · have h := h.2 c_1
      refine lv_iload_n hx hb dX5_add_39 rfl (lv_at hl 2 rfl) ?_
      refine lv_if_lt (tgt := 69) hx hb dX5_add_40 (by decide) (fun c_2 => ?_) (fun c_2 => ?_)
      · have h := h.1 c_2
        exact rtV (wf := (fun u : St => (wQu ad cI N u))) g hC hr hlk hw h dX5_add_69
      · have h := h.2 c_2
        refine lv_iload_n hx hb dX5_add_43 rfl (lv_at hl 2 rfl) ?_
        refine lv_aload_n hx hb dX5_add_44 rfl (lv_at hl 0 rfl) ?_
        refine gt (v := .ref (ad 1)) kfX5_13 0 hC hw rfl rfl dX5_add_45 ?_
        refine aln 1 0 (v := (Int32.ofNat N)) hC hw rfl rfl rfl dX5_add_48 ?_
        refine lv_icmp_ge (tgt := 69) hx hb dX5_add_49 (by decide) (fun c_3 => ?_) (fun c_3 => ?_)
        · have h := h.1 c_3
          exact rtV (wf := (fun u : St => (wQu ad cI N u))) g hC hr hlk hw h dX5_add_69
        · have h := h.2 c_3
          refine lv_aload_n hx hb dX5_add_52 rfl (lv_at hl 0 rfl) ?_
          refine gt (v := .ref (ad 1)) kfX5_13 0 hC hw rfl rfl dX5_add_53 ?_
          refine lv_iload_n hx hb dX5_add_56 rfl (lv_at hl 2 rfl) ?_
          refine lv_iload_n hx hb dX5_add_57 rfl (lv_at hl 1 rfl) ?_
          refine swQu_1 h.1 hC hw dX5_add_58 (fun H locs g_4 eg_4 hw => ?_)
          have h := h.2 g_4 eg_4
          refine lv_aload_n hx hb dX5_add_59 rfl (lv_at hl 0 rfl) ?_
          refine lv_dup hx hb dX5_add_60 rfl ?_
          refine gt (v := .int (g_4 0 1)) kfX5_19 0 hC hw rfl rfl dX5_add_61 ?_
          refine lv_iconst (v := (1 : Int32)) hx hb dX5_add_64 (by decide) ?_
          refine lv_iadd hx hb dX5_add_65 ?_
          refine pwQu_2 kpX5_19 hC hw dX5_add_66 (fun H locs g_5 eg_5 hw => ?_)
          have h := h g_5 eg_5
          exact rtV (wf := (fun u : St => (wQu ad cI N u))) g_5 hC hr hlk hw h dX5_add_69
  unfold V_X5_add at h
  refine lv_aload_n hx hb dX5_add_0 rfl (lv_at hl 0 rfl) ?_
  refine gt (v := .int (g 0 0)) kfX5_23 0 hC hw rfl rfl dX5_add_1 ?_
  refine lv_aload_n hx hb dX5_add_4 rfl (lv_at hl 0 rfl) ?_
  refine gt (v := .int (g 0 1)) kfX5_19 0 hC hw rfl rfl dX5_add_5 ?_
  refine lv_iadd hx hb dX5_add_8 ?_
  refine lv_topi (fun x_6 ex_6 => ?_)
  have h := h x_6 ex_6
  refine lv_istore_n (lv' := [(2, .int x_6), (0, .ref (ad 0)), (1, .int x1)]) hx hb dX5_add_9 rfl hl (by decide) rfl (fun ls hl => ?_)
  refine lv_iload_n hx hb dX5_add_10 rfl (lv_at hl 0 rfl) ?_
  refine lv_aload_n hx hb dX5_add_11 rfl (lv_at hl 1 rfl) ?_
  refine gt (v := .ref (ad 1)) kfX5_13 0 hC hw rfl rfl dX5_add_12 ?_
  refine aln 1 0 (v := (Int32.ofNat N)) hC hw rfl rfl rfl dX5_add_15 ?_
  refine lv_icmp_lt (tgt := 27) hx hb dX5_add_16 (by decide) (fun c_7 => ?_) (fun c_7 => ?_)
  · have h := h.1 c_7
    exact w_27 x1 x_6 g _ _ _ h hw (lv_sub hl [1, 2, 0] rfl)
  · have h := h.2 c_7
    refine lv_iload_n hx hb dX5_add_19 rfl (lv_at hl 0 rfl) ?_
    refine lv_aload_n hx hb dX5_add_20 rfl (lv_at hl 1 rfl) ?_
    refine gt (v := .ref (ad 1)) kfX5_13 0 hC hw rfl rfl dX5_add_21 ?_
    refine aln 1 0 (v := (Int32.ofNat N)) hC hw rfl rfl rfl dX5_add_24 ?_
    refine lv_isub hx hb dX5_add_25 ?_
    refine lv_topi (fun x_8 ex_8 => ?_)
    have h := h x_8 ex_8
    refine lv_istore_n (lv' := [(2, .int x_8), (0, .ref (ad 0)), (1, .int x1)]) hx hb dX5_add_26 rfl hl (by decide) rfl (fun ls hl => ?_)
    exact w_27 x1 x_8 g _ _ _ h hw (lv_sub hl [1, 2, 0] rfl)
def V_X5_removeOldest (N : Nat) (g : St) (post : Int32 → St → Prop) : Prop := (((g 0 1) ≤ 0 → post (0 : Int32) g) ∧ (¬ (g 0 1) ≤ 0 → (((g 0 0) < 0 → post (0 : Int32) g) ∧ (¬ (g 0 0) < 0 → (((g 0 0) < (Int32.ofNat N) → (vp_in (g 0 0) N ∧ ∀ x_4 : Int32, x_4 = (g 1 (g 0 0).toNatClampNeg) → ((¬ ((g 0 0) + (1 : Int32)) = (Int32.ofNat N) → ∀ g_6 : St, g_6 = us g 0 ((g 0 0) + (1 : Int32)) → ∀ g_7 : St, g_7 = us g_6 1 ((g_6 0 1) - (1 : Int32)) → post x_4 g_7) ∧ (((g 0 0) + (1 : Int32)) = (Int32.ofNat N) → ∀ g_8 : St, g_8 = us g 0 (0 : Int32) → ∀ g_9 : St, g_9 = us g_8 1 ((g_8 0 1) - (1 : Int32)) → post x_4 g_9)))) ∧ (¬ (g 0 0) < (Int32.ofNat N) → post (0 : Int32) g))))))
abbrev RM_X5_removeOldest : Room := { frames := 0, cells := 0, slots := 0, locals := 0 }
set_option maxHeartbeats 4000000 in
set_option maxRecDepth 100000 in
theorem m_X5_removeOldest (l : Launch) (D : va_G) (cI cC cZ cJ : ClassId) (ad : Nat → Nat) (N : Nat) (g : St) {post : Int32 → St → Prop} (h : V_X5_removeOldest N g post) : MetI l yX5_removeOldest cX5_removeOldest 2 .int RM_X5_removeOldest D (ty4 cI cC cZ cJ) (wQu ad cI N g) [.ref (ad 0)] (fun u : St => (wQu ad cI N u)) post := by
  refine mkI (by decide) (Nat.le_of_ble_eq_true rfl) ?_
  intro p e s m args below meth c A ls hC hr hlk hw hl
  have hx := hC.1
  have hb := hC.2.1
  have hl : lv_has ls 2 [(0, .ref (ad 0))] := hl
  unfold V_X5_removeOldest at h
  refine lv_aload_n hx hb dX5_removeOldest_0 rfl (lv_at hl 0 rfl) ?_
  refine gt (v := .int (g 0 1)) kfX5_19 0 hC hw rfl rfl dX5_removeOldest_1 ?_
  refine lv_if_le (tgt := 26) hx hb dX5_removeOldest_4 (by decide) (fun c_1 => ?_) (fun c_1 => ?_)
  · have h := h.1 c_1
    refine lv_iconst (v := (0 : Int32)) hx hb dX5_removeOldest_26 (by decide) ?_
    exact rtI (wf := (fun u : St => (wQu ad cI N u))) g hC hr hlk hw rfl h dX5_removeOldest_27
  · have h := h.2 c_1
    refine lv_aload_n hx hb dX5_removeOldest_7 rfl (lv_at hl 0 rfl) ?_
    refine gt (v := .int (g 0 0)) kfX5_23 0 hC hw rfl rfl dX5_removeOldest_8 ?_
    refine lv_if_lt (tgt := 26) hx hb dX5_removeOldest_11 (by decide) (fun c_2 => ?_) (fun c_2 => ?_)
    · have h := h.1 c_2
      refine lv_iconst (v := (0 : Int32)) hx hb dX5_removeOldest_26 (by decide) ?_
      exact rtI (wf := (fun u : St => (wQu ad cI N u))) g hC hr hlk hw rfl h dX5_removeOldest_27
    · have h := h.2 c_2
      refine lv_aload_n hx hb dX5_removeOldest_14 rfl (lv_at hl 0 rfl) ?_
      refine gt (v := .int (g 0 0)) kfX5_23 0 hC hw rfl rfl dX5_removeOldest_15 ?_
      refine lv_aload_n hx hb dX5_removeOldest_18 rfl (lv_at hl 0 rfl) ?_
      refine gt (v := .ref (ad 1)) kfX5_13 0 hC hw rfl rfl dX5_removeOldest_19 ?_
      refine aln 1 0 (v := (Int32.ofNat N)) hC hw rfl rfl rfl dX5_removeOldest_22 ?_
      refine lv_icmp_lt (tgt := 28) hx hb dX5_removeOldest_23 (by decide) (fun c_3 => ?_) (fun c_3 => ?_)
      · have h := h.1 c_3
        refine lv_aload_n hx hb dX5_removeOldest_28 rfl (lv_at hl 0 rfl) ?_
        refine gt (v := .ref (ad 1)) kfX5_13 0 hC hw rfl rfl dX5_removeOldest_29 ?_
        refine lv_aload_n hx hb dX5_removeOldest_32 rfl (lv_at hl 0 rfl) ?_
        refine gt (v := .int (g 0 0)) kfX5_23 0 hC hw rfl rfl dX5_removeOldest_33 ?_
        refine ldI 1 0 hC hw rfl rfl h.1 dX5_removeOldest_36 ?_
        have h := h.2
        refine lv_topi (fun x_4 ex_4 => ?_)
        have h := h x_4 ex_4
        refine lv_istore_n (lv' := [(1, .int x_4), (0, .ref (ad 0))]) hx hb dX5_removeOldest_37 rfl hl (by decide) rfl (fun ls hl => ?_)
        refine lv_aload_n hx hb dX5_removeOldest_38 rfl (lv_at hl 1 rfl) ?_
        refine lv_aload_n hx hb dX5_removeOldest_39 rfl (lv_at hl 1 rfl) ?_
        refine gt (v := .int (g 0 0)) kfX5_23 0 hC hw rfl rfl dX5_removeOldest_40 ?_
        refine lv_iconst (v := (1 : Int32)) hx hb dX5_removeOldest_43 (by decide) ?_
        refine lv_iadd hx hb dX5_removeOldest_44 ?_
        refine lv_aload_n hx hb dX5_removeOldest_45 rfl (lv_at hl 1 rfl) ?_
        refine gt (v := .ref (ad 1)) kfX5_13 0 hC hw rfl rfl dX5_removeOldest_46 ?_
        refine aln 1 0 (v := (Int32.ofNat N)) hC hw rfl rfl rfl dX5_removeOldest_49 ?_
        refine lv_icmp_ne (tgt := 57) hx hb dX5_removeOldest_50 (by decide) (fun c_5 => ?_) (fun c_5 => ?_)
        · have h := h.1 c_5
          refine lv_aload_n hx hb dX5_removeOldest_57 rfl (lv_at hl 1 rfl) ?_
          refine gt (v := .int (g 0 0)) kfX5_23 0 hC hw rfl rfl dX5_removeOldest_58 ?_
          refine lv_iconst (v := (1 : Int32)) hx hb dX5_removeOldest_61 (by decide) ?_
          refine lv_iadd hx hb dX5_removeOldest_62 ?_
          refine pwQu_1 kpX5_23 hC hw dX5_removeOldest_63 (fun H locs g_6 eg_6 hw => ?_)
          have h := h g_6 eg_6
          refine lv_aload_n hx hb dX5_removeOldest_66 rfl (lv_at hl 1 rfl) ?_
          refine lv_dup hx hb dX5_removeOldest_67 rfl ?_
          refine gt (v := .int (g_6 0 1)) kfX5_19 0 hC hw rfl rfl dX5_removeOldest_68 ?_
          refine lv_iconst (v := (1 : Int32)) hx hb dX5_removeOldest_71 (by decide) ?_
          refine lv_isub hx hb dX5_removeOldest_72 ?_
          refine pwQu_2 kpX5_19 hC hw dX5_removeOldest_73 (fun H locs g_7 eg_7 hw => ?_)
          have h := h g_7 eg_7
          refine lv_iload_n hx hb dX5_removeOldest_76 rfl (lv_at hl 0 rfl) ?_
          exact rtI (wf := (fun u : St => (wQu ad cI N u))) g_7 hC hr hlk hw rfl h dX5_removeOldest_77
        · have h := h.2 c_5
          refine lv_iconst (v := (0 : Int32)) hx hb dX5_removeOldest_53 (by decide) ?_
          refine lv_goto (tgt := 63) hx hb dX5_removeOldest_54 (by decide) ?_
          refine pwQu_1 kpX5_23 hC hw dX5_removeOldest_63 (fun H locs g_8 eg_8 hw => ?_)
          have h := h g_8 eg_8
          refine lv_aload_n hx hb dX5_removeOldest_66 rfl (lv_at hl 1 rfl) ?_
          refine lv_dup hx hb dX5_removeOldest_67 rfl ?_
          refine gt (v := .int (g_8 0 1)) kfX5_19 0 hC hw rfl rfl dX5_removeOldest_68 ?_
          refine lv_iconst (v := (1 : Int32)) hx hb dX5_removeOldest_71 (by decide) ?_
          refine lv_isub hx hb dX5_removeOldest_72 ?_
          refine pwQu_2 kpX5_19 hC hw dX5_removeOldest_73 (fun H locs g_9 eg_9 hw => ?_)
          have h := h g_9 eg_9
          refine lv_iload_n hx hb dX5_removeOldest_76 rfl (lv_at hl 0 rfl) ?_
          exact rtI (wf := (fun u : St => (wQu ad cI N u))) g_9 hC hr hlk hw rfl h dX5_removeOldest_77
      · have h := h.2 c_3
        refine lv_iconst (v := (0 : Int32)) hx hb dX5_removeOldest_26 (by decide) ?_
        exact rtI (wf := (fun u : St => (wQu ad cI N u))) g hC hr hlk hw rfl h dX5_removeOldest_27
