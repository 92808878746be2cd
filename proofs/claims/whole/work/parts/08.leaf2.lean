def V_X2_at (N : Nat) (x1 : Int32) (g : St) (post : Int32 → St → Prop) : Prop := ((x1 < 0 → post (1 : Int32) g) ∧ (¬ x1 < 0 → (((Int32.ofNat N) ≤ x1 → post (1 : Int32) g) ∧ (¬ (Int32.ofNat N) ≤ x1 → (vp_in x1 N ∧ post (g 1 x1.toNatClampNeg) g)))))
abbrev RM_X2_at : Room := { frames := 0, cells := 0, slots := 0, locals := 0 }
set_option maxHeartbeats 4000000 in
set_option maxRecDepth 100000 in
theorem m_X2_at (l : Launch) (D : va_G) (cI cC cZ cJ : ClassId) (ad : Nat → Nat) (N : Nat) (x1 : Int32) (g : St) {post : Int32 → St → Prop} (h : V_X2_at N x1 g post) : MetI l yX2_at cX2_at 2 .int RM_X2_at D (ty4 cI cC cZ cJ) (wHp ad cI N g) [.ref (ad 0), .int x1] (fun u : St => (wHp ad cI N u)) post := by
  refine mkI (by decide) (Nat.le_of_ble_eq_true rfl) ?_
  intro p e s m args below meth c A ls hC hr hlk hw hl
  have hx := hC.1
  have hb := hC.2.1
  have hl : lv_has ls 2 [(0, .ref (ad 0)), (1, .int x1)] := hl
  unfold V_X2_at at h
  refine lv_iload_n hx hb dX2_at_0 rfl (lv_at hl 1 rfl) ?_
  refine lv_if_lt (tgt := 22) hx hb dX2_at_1 (by decide) (fun c_1 => ?_) (fun c_1 => ?_)
  · have h := h.1 c_1
    refine lv_iconst (v := (1 : Int32)) hx hb dX2_at_22 (by decide) ?_
    exact rtI (wf := (fun u : St => (wHp ad cI N u))) g hC hr hlk hw rfl h dX2_at_23
  · have h := h.2 c_1
    refine lv_iload_n hx hb dX2_at_4 rfl (lv_at hl 1 rfl) ?_
    refine lv_aload_n hx hb dX2_at_5 rfl (lv_at hl 0 rfl) ?_
    refine gt (v := .ref (ad 1)) kfX2_27 0 hC hw rfl rfl dX2_at_6 ?_
    refine aln 1 0 (v := (Int32.ofNat N)) hC hw rfl rfl rfl dX2_at_9 ?_
    refine lv_icmp_ge (tgt := 22) hx hb dX2_at_10 (by decide) (fun c_2 => ?_) (fun c_2 => ?_)
    · have h := h.1 c_2
      refine lv_iconst (v := (1 : Int32)) hx hb dX2_at_22 (by decide) ?_
      exact rtI (wf := (fun u : St => (wHp ad cI N u))) g hC hr hlk hw rfl h dX2_at_23
    · have h := h.2 c_2
      refine lv_aload_n hx hb dX2_at_13 rfl (lv_at hl 0 rfl) ?_
      refine gt (v := .ref (ad 1)) kfX2_27 0 hC hw rfl rfl dX2_at_14 ?_
      refine lv_iload_n hx hb dX2_at_17 rfl (lv_at hl 1 rfl) ?_
      refine ldI 1 0 hC hw rfl rfl h.1 dX2_at_18 ?_
      have h := h.2
      refine lv_goto (tgt := 23) hx hb dX2_at_19 (by decide) ?_
      exact rtI (wf := (fun u : St => (wHp ad cI N u))) g hC hr hlk hw rfl h dX2_at_23
def V_X2_put (N : Nat) (x1 : Int32) (x2 : Int32) (g : St) (post : St → Prop) : Prop := ((x1 < 0 → post g) ∧ (¬ x1 < 0 → (((Int32.ofNat N) ≤ x1 → post g) ∧ (¬ (Int32.ofNat N) ≤ x1 → (vp_in x1 N ∧ ∀ g_3 : St, g_3 = up g 1 x1.toNatClampNeg x2 → post g_3)))))
abbrev RM_X2_put : Room := { frames := 0, cells := 0, slots := 0, locals := 0 }
set_option maxHeartbeats 4000000 in
set_option maxRecDepth 100000 in
theorem m_X2_put (l : Launch) (D : va_G) (cI cC cZ cJ : ClassId) (ad : Nat → Nat) (N : Nat) (x1 : Int32) (x2 : Int32) (g : St) {post : St → Prop} (h : V_X2_put N x1 x2 g post) : MetV l yX2_put cX2_put 3 RM_X2_put D (ty4 cI cC cZ cJ) (wHp ad cI N g) [.ref (ad 0), .int x1, .int x2] (fun u : St => (wHp ad cI N u)) post := by
  refine mkV (by decide) (Nat.le_of_ble_eq_true rfl) ?_
  intro p e s m args below meth c A ls hC hr hlk hw hl
  have hx := hC.1
  have hb := hC.2.1
  have hl : lv_has ls 3 [(0, .ref (ad 0)), (1, .int x1), (2, .int x2)] := hl
  unfold V_X2_put at h
  refine lv_iload_n hx hb dX2_put_0 rfl (lv_at hl 1 rfl) ?_
  refine lv_if_lt (tgt := 20) hx hb dX2_put_1 (by decide) (fun c_1 => ?_) (fun c_1 => ?_)
  · have h := h.1 c_1
    exact rtV (wf := (fun u : St => (wHp ad cI N u))) g hC hr hlk hw h dX2_put_20
  · have h := h.2 c_1
    refine lv_iload_n hx hb dX2_put_4 rfl (lv_at hl 1 rfl) ?_
    refine lv_aload_n hx hb dX2_put_5 rfl (lv_at hl 0 rfl) ?_
    refine gt (v := .ref (ad 1)) kfX2_27 0 hC hw rfl rfl dX2_put_6 ?_
    refine aln 1 0 (v := (Int32.ofNat N)) hC hw rfl rfl rfl dX2_put_9 ?_
    refine lv_icmp_ge (tgt := 20) hx hb dX2_put_10 (by decide) (fun c_2 => ?_) (fun c_2 => ?_)
    · have h := h.1 c_2
      exact rtV (wf := (fun u : St => (wHp ad cI N u))) g hC hr hlk hw h dX2_put_20
    · have h := h.2 c_2
      refine lv_aload_n hx hb dX2_put_13 rfl (lv_at hl 0 rfl) ?_
      refine gt (v := .ref (ad 1)) kfX2_27 0 hC hw rfl rfl dX2_put_14 ?_
      refine lv_iload_n hx hb dX2_put_17 rfl (lv_at hl 1 rfl) ?_
      refine lv_iload_n hx hb dX2_put_18 rfl (lv_at hl 2 rfl) ?_
      refine swHp_1 h.1 hC hw dX2_put_19 (fun H locs g_3 eg_3 hw => ?_)
      have h := h.2 g_3 eg_3
      exact rtV (wf := (fun u : St => (wHp ad cI N u))) g_3 hC hr hlk hw h dX2_put_20
def V_X2_car (N : Nat) (x1 : Int32) (g : St) (post : Int32 → St → Prop) : Prop := V_X10_tag x1 (fun r_1 => ((¬ r_1 = (4 : Int32) → post (1 : Int32) g) ∧ (r_1 = (4 : Int32) → V_X10_held x1 (fun r_3 => V_X2_at N r_3 g (fun r_5 g_4 => post r_5 g_4)))))
abbrev RM_X2_car : Room := { frames := 1, cells := 0, slots := 0, locals := 21 }
set_option maxHeartbeats 4000000 in
set_option maxRecDepth 100000 in
theorem m_X2_car (l : Launch) (D : va_G) (cI cC cZ cJ : ClassId) (ad : Nat → Nat) (N : Nat) (x1 : Int32) (g : St) {post : Int32 → St → Prop} (h : V_X2_car N x1 g post) : MetI l yX2_car cX2_car 2 .int RM_X2_car D (ty4 cI cC cZ cJ) (wHp ad cI N g) [.ref (ad 0), .int x1] (fun u : St => (wHp ad cI N u)) post := by
  refine mkI (by decide) (Nat.le_of_ble_eq_true rfl) ?_
  intro p e s m args below meth c A ls hC hr hlk hw hl
  have hx := hC.1
  have hb := hC.2.1
  have hl : lv_has ls 2 [(0, .ref (ad 0)), (1, .int x1)] := hl
  unfold V_X2_car at h
  refine lv_iload_n hx hb dX2_car_0 rfl (lv_at hl 1 rfl) ?_
  refine cSI ksX2_33 hC (m_X10_tag l x1 h) rfl rfl ⟨by decide, by decide⟩ rfl hl.1 (Nat.le_of_ble_eq_true rfl) dX2_car_1 ⟨Nat.zero_le _, Nat.zero_le _⟩ rfl ?_
  intro r_1 h
  refine lv_iconst (v := (4 : Int32)) hx hb dX2_car_4 (by decide) ?_
  refine lv_icmp_ne (tgt := 19) hx hb dX2_car_5 (by decide) (fun c_2 => ?_) (fun c_2 => ?_)
  · have h := h.1 c_2
    refine lv_iconst (v := (1 : Int32)) hx hb dX2_car_19 (by decide) ?_
    exact rtI (wf := (fun u : St => (wHp ad cI N u))) g hC hr hlk hw rfl h dX2_car_20
  · have h := h.2 c_2
    refine lv_aload_n hx hb dX2_car_8 rfl (lv_at hl 0 rfl) ?_
    refine lv_iload_n hx hb dX2_car_9 rfl (lv_at hl 1 rfl) ?_
    refine cSI ksX2_37 hC (m_X10_held l x1 h) rfl rfl ⟨by decide, by decide⟩ rfl hl.1 (Nat.le_of_ble_eq_true rfl) dX2_car_10 ⟨Nat.zero_le _, Nat.zero_le _⟩ rfl ?_
    intro r_3 h
    refine cVIw (q0 := 0) kmX2_40 hC hw (m_X2_at l D cI cC cZ cJ ad N r_3 g h) rfl rfl ⟨by decide, by decide⟩ rfl rfl rfl hl.1 (Nat.le_of_ble_eq_true rfl) dX2_car_13 ⟨Nat.zero_le _, Nat.zero_le _⟩ rfl ?_
    intro r_5 g_4 H locs h hw
    refine lv_goto (tgt := 20) hx hb dX2_car_16 (by decide) ?_
    exact rtI (wf := (fun u : St => (wHp ad cI N u))) g_4 hC hr hlk hw rfl h dX2_car_20
def V_X2_cdr (N : Nat) (x1 : Int32) (g : St) (post : Int32 → St → Prop) : Prop := V_X10_tag x1 (fun r_1 => ((¬ r_1 = (4 : Int32) → post (1 : Int32) g) ∧ (r_1 = (4 : Int32) → V_X10_held x1 (fun r_3 => V_X2_at N (r_3 + (1 : Int32)) g (fun r_5 g_4 => post r_5 g_4)))))
abbrev RM_X2_cdr : Room := { frames := 1, cells := 0, slots := 0, locals := 21 }
set_option maxHeartbeats 4000000 in
set_option maxRecDepth 100000 in
theorem m_X2_cdr (l : Launch) (D : va_G) (cI cC cZ cJ : ClassId) (ad : Nat → Nat) (N : Nat) (x1 : Int32) (g : St) {post : Int32 → St → Prop} (h : V_X2_cdr N x1 g post) : MetI l yX2_cdr cX2_cdr 2 .int RM_X2_cdr D (ty4 cI cC cZ cJ) (wHp ad cI N g) [.ref (ad 0), .int x1] (fun u : St => (wHp ad cI N u)) post := by
  refine mkI (by decide) (Nat.le_of_ble_eq_true rfl) ?_
  intro p e s m args below meth c A ls hC hr hlk hw hl
  have hx := hC.1
  have hb := hC.2.1
  have hl : lv_has ls 2 [(0, .ref (ad 0)), (1, .int x1)] := hl
  unfold V_X2_cdr at h
  refine lv_iload_n hx hb dX2_cdr_0 rfl (lv_at hl 1 rfl) ?_
  refine cSI ksX2_33 hC (m_X10_tag l x1 h) rfl rfl ⟨by decide, by decide⟩ rfl hl.1 (Nat.le_of_ble_eq_true rfl) dX2_cdr_1 ⟨Nat.zero_le _, Nat.zero_le _⟩ rfl ?_
  intro r_1 h
  refine lv_iconst (v := (4 : Int32)) hx hb dX2_cdr_4 (by decide) ?_
  refine lv_icmp_ne (tgt := 21) hx hb dX2_cdr_5 (by decide) (fun c_2 => ?_) (fun c_2 => ?_)
  · have h := h.1 c_2
    refine lv_iconst (v := (1 : Int32)) hx hb dX2_cdr_21 (by decide) ?_
    exact rtI (wf := (fun u : St => (wHp ad cI N u))) g hC hr hlk hw rfl h dX2_cdr_22
  · have h := h.2 c_2
    refine lv_aload_n hx hb dX2_cdr_8 rfl (lv_at hl 0 rfl) ?_
    refine lv_iload_n hx hb dX2_cdr_9 rfl (lv_at hl 1 rfl) ?_
    refine cSI ksX2_37 hC (m_X10_held l x1 h) rfl rfl ⟨by decide, by decide⟩ rfl hl.1 (Nat.le_of_ble_eq_true rfl) dX2_cdr_10 ⟨Nat.zero_le _, Nat.zero_le _⟩ rfl ?_
    intro r_3 h
    refine lv_iconst (v := (1 : Int32)) hx hb dX2_cdr_13 (by decide) ?_
    refine lv_iadd hx hb dX2_cdr_14 ?_
    refine cVIw (q0 := 0) kmX2_40 hC hw (m_X2_at l D cI cC cZ cJ ad N (r_3 + (1 : Int32)) g h) rfl rfl ⟨by decide, by decide⟩ rfl rfl rfl hl.1 (Nat.le_of_ble_eq_true rfl) dX2_cdr_15 ⟨Nat.zero_le _, Nat.zero_le _⟩ rfl ?_
    intro r_5 g_4 H locs h hw
    refine lv_goto (tgt := 22) hx hb dX2_cdr_18 (by decide) ?_
    exact rtI (wf := (fun u : St => (wHp ad cI N u))) g_4 hC hr hlk hw rfl h dX2_cdr_22
def V_X2_vectorLength (N : Nat) (x1 : Int32) (g : St) (post : Int32 → St → Prop) : Prop := V_X10_held x1 (fun r_1 => V_X2_at N r_1 g (fun r_3 g_2 => V_X10_held r_3 (fun r_4 => post r_4 g_2)))
abbrev RM_X2_vectorLength : Room := { frames := 1, cells := 0, slots := 0, locals := 21 }
set_option maxHeartbeats 4000000 in
set_option maxRecDepth 100000 in
theorem m_X2_vectorLength (l : Launch) (D : va_G) (cI cC cZ cJ : ClassId) (ad : Nat → Nat) (N : Nat) (x1 : Int32) (g : St) {post : Int32 → St → Prop} (h : V_X2_vectorLength N x1 g post) : MetI l yX2_vectorLength cX2_vectorLength 2 .int RM_X2_vectorLength D (ty4 cI cC cZ cJ) (wHp ad cI N g) [.ref (ad 0), .int x1] (fun u : St => (wHp ad cI N u)) post := by
  refine mkI (by decide) (Nat.le_of_ble_eq_true rfl) ?_
  intro p e s m args below meth c A ls hC hr hlk hw hl
  have hx := hC.1
  have hb := hC.2.1
  have hl : lv_has ls 2 [(0, .ref (ad 0)), (1, .int x1)] := hl
  unfold V_X2_vectorLength at h
  refine lv_aload_n hx hb dX2_vectorLength_0 rfl (lv_at hl 0 rfl) ?_
  refine lv_iload_n hx hb dX2_vectorLength_1 rfl (lv_at hl 1 rfl) ?_
  refine cSI ksX2_37 hC (m_X10_held l x1 h) rfl rfl ⟨by decide, by decide⟩ rfl hl.1 (Nat.le_of_ble_eq_true rfl) dX2_vectorLength_2 ⟨Nat.zero_le _, Nat.zero_le _⟩ rfl ?_
  intro r_1 h
  refine cVIw (q0 := 0) kmX2_40 hC hw (m_X2_at l D cI cC cZ cJ ad N r_1 g h) rfl rfl ⟨by decide, by decide⟩ rfl rfl rfl hl.1 (Nat.le_of_ble_eq_true rfl) dX2_vectorLength_5 ⟨Nat.zero_le _, Nat.zero_le _⟩ rfl ?_
  intro r_3 g_2 H locs h hw
  refine cSI ksX2_37 hC (m_X10_held l r_3 h) rfl rfl ⟨by decide, by decide⟩ rfl hl.1 (Nat.le_of_ble_eq_true rfl) dX2_vectorLength_8 ⟨Nat.zero_le _, Nat.zero_le _⟩ rfl ?_
  intro r_4 h
  exact rtI (wf := (fun u : St => (wHp ad cI N u))) g_2 hC hr hlk hw rfl h dX2_vectorLength_11
def V_X2_listLength_4 (N : Nat) (post : Int32 → St → Prop) : Nat → Int32 → Int32 → St → Prop
  | 0, _, _, _ => False
  | n + 1, x2, x3, g => V_X10_tag x3 (fun r_1 => ((¬ r_1 = (4 : Int32) → post x2 g) ∧ (r_1 = (4 : Int32) → (((2048 : Int32) ≤ x2 → post x2 g) ∧ (¬ (2048 : Int32) ≤ x2 → ∀ x_4 : Int32, x_4 = x2 + (1 : Int32) → V_X2_cdr N x3 g (fun r_6 g_5 => V_X2_listLength_4 N post n x_4 r_6 g_5))))))
def V_X2_listLength (N : Nat) (n : Nat) (x1 : Int32) (g : St) (post : Int32 → St → Prop) : Prop := ∀ x_7 : Int32, x_7 = (0 : Int32) → V_X2_listLength_4 N post n x_7 x1 g
abbrev RM_X2_listLength : Room := { frames := 2, cells := 0, slots := 0, locals := 42 }
set_option maxHeartbeats 4000000 in
set_option maxRecDepth 100000 in
theorem m_X2_listLength (l : Launch) (D : va_G) (cI cC cZ cJ : ClassId) (ad : Nat → Nat) (N : Nat) (n : Nat) (x1 : Int32) (g : St) {post : Int32 → St → Prop} (h : V_X2_listLength N n x1 g post) : MetI l yX2_listLength cX2_listLength 4 .int RM_X2_listLength D (ty4 cI cC cZ cJ) (wHp ad cI N g) [.ref (ad 0), .int x1] (fun u : St => (wHp ad cI N u)) post := by
  refine mkI (by decide) (Nat.le_of_ble_eq_true rfl) ?_
  intro p e s m args below meth c A ls hC hr hlk hw hl
  have hx := hC.1
  have hb := hC.2.1
  have hl : lv_has ls 4 [(0, .ref (ad 0)), (1, .int x1)] := hl
  have w_4 : ∀ (n : Nat) (x2 : Int32) (x3 : Int32) (g : St) (H : Heap) (locs : List Loc) (ls : Array Slot), V_X2_listLength_4 N post n x2 x3 g → Wd D (ty4 cI cC cZ cJ) A s (wHp ad cI N g) H locs → lv_has ls 4 [(0, .ref (ad 0)), (2, .int x2), (3, .int x3)] → W p l e RM_X2_listLength s m args below meth c H locs 0 0 (QI below D (ty4 cI cC cZ cJ) A args s (fun u : St => (wHp ad cI N u)) post) (F0 m 4 ls []) := by
    intro n
    induction n with
    | zero =>
      intro x2 x3 g H locs ls h
      exact False.elim h
    | succ n ih =>
      intro x2 x3 g H locs ls h hw hl
      rw [V_X2_listLength_4] at h
      refine lv_iload_n hx hb dX2_listLength_4 rfl (lv_at hl 2 rfl) ?_
      refine cSI ksX2_33 hC (m_X10_tag l x3 h) rfl rfl ⟨by decide, by decide⟩ rfl hl.1 (Nat.le_of_ble_eq_true rfl) dX2_listLength_5 ⟨Nat.zero_le _, Nat.zero_le _⟩ rfl ?_
      intro r_1 h
      refine lv_iconst (v := (4 : Int32)) hx hb dX2_listLength_8 (by decide) ?_
      refine lv_icmp_ne (tgt := 31) hx hb dX2_listLength_9 (by decide) (fun c_2 => ?_) (fun c_2 => ?_)
      · have h := h.1 c_2
        refine lv_iload_n hx hb dX2_listLength_31 rfl (lv_at hl 1 rfl) ?_
        exact rtI (wf := (fun u : St => (wHp ad cI N u))) g hC hr hlk hw rfl h dX2_listLength_32
      · have h := h.2 c_2
        refine lv_iload_n hx hb dX2_listLength_12 rfl (lv_at hl 1 rfl) ?_
        refine lv_sipush (v := (2048 : Int32)) hx hb dX2_listLength_13 (by decide) ?_
        refine lv_icmp_ge (tgt := 31) hx hb dX2_listLength_16 (by decide) (fun c_3 => ?_) (fun c_3 => ?_)
        · have h := h.1 c_3
          refine lv_iload_n hx hb dX2_listLength_31 rfl (lv_at hl 1 rfl) ?_
          exact rtI (wf := (fun u : St => (wHp ad cI N u))) g hC hr hlk hw rfl h dX2_listLength_32
        · have h := h.2 c_3
          obtain ⟨x_4, ex_4⟩ : ∃ y : Int32, y = x2 + (1 : Int32) := ⟨_, rfl⟩
          have h := h x_4 ex_4
          refine lv_iinc (v := x_4) (lv' := [(2, .int x_4), (0, .ref (ad 0)), (3, .int x3)]) hx hb dX2_listLength_19 hl (k := 1) rfl (by rw [ex_4]; rfl) (by decide) rfl (fun ls hl => ?_)
          refine lv_aload_n hx hb dX2_listLength_22 rfl (lv_at hl 1 rfl) ?_
          refine lv_iload_n hx hb dX2_listLength_23 rfl (lv_at hl 2 rfl) ?_
          refine cVIw (q0 := 0) kmX2_43 hC hw (m_X2_cdr l D cI cC cZ cJ ad N x3 g h) rfl rfl ⟨by decide, by decide⟩ rfl rfl rfl hl.1 (Nat.le_of_ble_eq_true rfl) dX2_listLength_24 ⟨Nat.zero_le _, Nat.zero_le _⟩ rfl ?_
          intro r_6 g_5 H locs h hw
          refine lv_istore_n (lv' := [(3, .int r_6), (2, .int x_4), (0, .ref (ad 0))]) hx hb dX2_listLength_27 rfl hl (by decide) rfl (fun ls hl => ?_)
          refine lv_goto (tgt := 4) hx hb dX2_listLength_28 (by decide) ?_
          exact ih x_4 r_6 g_5 _ _ _ h hw (lv_sub hl [2, 1, 0] rfl)
  unfold V_X2_listLength at h
  refine lv_iconst (v := (0 : Int32)) hx hb dX2_listLength_0 (by decide) ?_
  refine lv_topi (fun x_7 ex_7 => ?_)
  have h := h x_7 ex_7
  refine lv_istore_n (lv' := [(2, .int x_7), (0, .ref (ad 0)), (1, .int x1)]) hx hb dX2_listLength_1 rfl hl (by decide) rfl (fun ls hl => ?_)
  refine lv_iload_n hx hb dX2_listLength_2 rfl (lv_at hl 2 rfl) ?_
  refine lv_istore_n (lv' := [(3, .int x1), (2, .int x_7), (0, .ref (ad 0)), (1, .int x1)]) hx hb dX2_listLength_3 rfl hl (by decide) rfl (fun ls hl => ?_)
  exact w_4 n x_7 x1 g _ _ _ h hw (lv_sub hl [2, 1, 0] rfl)
def V_X2_readCell (N : Nat) (x1 : Int32) (x2 : Int32) (g : St) (post : Int32 → St → Prop) : Prop := ∀ x_1 : Int32, x_1 = (g 0 1) → (((x_1 + (2 : Int32)) ≤ (2048 : Int32) → ∀ g_3 : St, g_3 = us g 1 ((g 0 1) + (2 : Int32)) → V_X2_put N x_1 x1 g_3 (fun g_4 => V_X2_put N (x_1 + (1 : Int32)) x2 g_4 (fun g_6 => V_X10_of (4 : Int32) x_1 (fun r_8 => post r_8 g_6)))) ∧ (¬ (x_1 + (2 : Int32)) ≤ (2048 : Int32) → post (1 : Int32) g))
abbrev RM_X2_readCell : Room := { frames := 1, cells := 0, slots := 0, locals := 22 }
set_option maxHeartbeats 4000000 in
set_option maxRecDepth 100000 in
theorem m_X2_readCell (l : Launch) (D : va_G) (cI cC cZ cJ : ClassId) (ad : Nat → Nat) (N : Nat) (x1 : Int32) (x2 : Int32) (g : St) {post : Int32 → St → Prop} (h : V_X2_readCell N x1 x2 g post) : MetI l yX2_readCell cX2_readCell 4 .int RM_X2_readCell D (ty4 cI cC cZ cJ) (wHp ad cI N g) [.ref (ad 0), .int x1, .int x2] (fun u : St => (wHp ad cI N u)) post := by
  refine mkI (by decide) (Nat.le_of_ble_eq_true rfl) ?_
  intro p e s m args below meth c A ls hC hr hlk hw hl
  have hx := hC.1
  have hb := hC.2.1
  have hl : lv_has ls 4 [(0, .ref (ad 0)), (1, .int x1), (2, .int x2)] := hl
  unfold V_X2_readCell at h
  refine lv_aload_n hx hb dX2_readCell_0 rfl (lv_at hl 0 rfl) ?_
  refine gt (v := .int (g 0 1)) kfX2_46 0 hC hw rfl rfl dX2_readCell_1 ?_
  refine lv_topi (fun x_1 ex_1 => ?_)
  have h := h x_1 ex_1
  refine lv_istore_n (lv' := [(3, .int x_1), (0, .ref (ad 0)), (1, .int x1), (2, .int x2)]) hx hb dX2_readCell_4 rfl hl (by decide) rfl (fun ls hl => ?_)
  refine lv_iload_n hx hb dX2_readCell_5 rfl (lv_at hl 0 rfl) ?_
  refine lv_iconst (v := (2 : Int32)) hx hb dX2_readCell_6 (by decide) ?_
  refine lv_iadd hx hb dX2_readCell_7 ?_
  refine lv_sipush (v := (2048 : Int32)) hx hb dX2_readCell_8 (by decide) ?_
  refine lv_icmp_le (tgt := 16) hx hb dX2_readCell_11 (by decide) (fun c_2 => ?_) (fun c_2 => ?_)
  · have h := h.1 c_2
    refine lv_aload_n hx hb dX2_readCell_16 rfl (lv_at hl 1 rfl) ?_
    refine lv_dup hx hb dX2_readCell_17 rfl ?_
    refine gt (v := .int (g 0 1)) kfX2_46 0 hC hw rfl rfl dX2_readCell_18 ?_
    refine lv_iconst (v := (2 : Int32)) hx hb dX2_readCell_21 (by decide) ?_
    refine lv_iadd hx hb dX2_readCell_22 ?_
    refine pwHp_2 kpX2_46 hC hw dX2_readCell_23 (fun H locs g_3 eg_3 hw => ?_)
    have h := h g_3 eg_3
    refine lv_aload_n hx hb dX2_readCell_26 rfl (lv_at hl 1 rfl) ?_
    refine lv_iload_n hx hb dX2_readCell_27 rfl (lv_at hl 0 rfl) ?_
    refine lv_iload_n hx hb dX2_readCell_28 rfl (lv_at hl 2 rfl) ?_
    refine cVVw (q0 := 0) kmX2_49 hC hw (m_X2_put l D cI cC cZ cJ ad N x_1 x1 g_3 h) rfl rfl ⟨by decide, by decide⟩ rfl rfl rfl hl.1 (Nat.le_of_ble_eq_true rfl) dX2_readCell_29 ⟨Nat.zero_le _, Nat.zero_le _⟩ rfl ?_
    intro g_4 H locs h hw
    refine lv_aload_n hx hb dX2_readCell_32 rfl (lv_at hl 1 rfl) ?_
    refine lv_iload_n hx hb dX2_readCell_33 rfl (lv_at hl 0 rfl) ?_
    refine lv_iconst (v := (1 : Int32)) hx hb dX2_readCell_34 (by decide) ?_
    refine lv_iadd hx hb dX2_readCell_35 ?_
    refine lv_iload_n hx hb dX2_readCell_36 rfl (lv_at hl 3 rfl) ?_
    refine cVVw (q0 := 0) kmX2_49 hC hw (m_X2_put l D cI cC cZ cJ ad N (x_1 + (1 : Int32)) x2 g_4 h) rfl rfl ⟨by decide, by decide⟩ rfl rfl rfl hl.1 (Nat.le_of_ble_eq_true rfl) dX2_readCell_37 ⟨Nat.zero_le _, Nat.zero_le _⟩ rfl ?_
    intro g_6 H locs h hw
    refine lv_iconst (v := (4 : Int32)) hx hb dX2_readCell_40 (by decide) ?_
    refine lv_iload_n hx hb dX2_readCell_41 rfl (lv_at hl 0 rfl) ?_
    refine cSI ksX2_53 hC (m_X10_of l (4 : Int32) x_1 h) rfl rfl ⟨by decide, by decide⟩ rfl hl.1 (Nat.le_of_ble_eq_true rfl) dX2_readCell_42 ⟨Nat.zero_le _, Nat.zero_le _⟩ rfl ?_
    intro r_8 h
    exact rtI (wf := (fun u : St => (wHp ad cI N u))) g_6 hC hr hlk hw rfl h dX2_readCell_45
  · have h := h.2 c_2
    refine lv_iconst (v := (1 : Int32)) hx hb dX2_readCell_14 (by decide) ?_
    exact rtI (wf := (fun u : St => (wHp ad cI N u))) g hC hr hlk hw rfl h dX2_readCell_15
def V_X2_keepRead (N : Nat) (g : St) (post : St → Prop) : Prop := ∀ g_1 : St, g_1 = us g 2 (g 0 1) → post g_1
abbrev RM_X2_keepRead : Room := { frames := 0, cells := 0, slots := 0, locals := 0 }
set_option maxHeartbeats 4000000 in
set_option maxRecDepth 100000 in
theorem m_X2_keepRead (l : Launch) (D : va_G) (cI cC cZ cJ : ClassId) (ad : Nat → Nat) (N : Nat) (g : St) {post : St → Prop} (h : V_X2_keepRead N g post) : MetV l yX2_keepRead cX2_keepRead 1 RM_X2_keepRead D (ty4 cI cC cZ cJ) (wHp ad cI N g) [.ref (ad 0)] (fun u : St => (wHp ad cI N u)) post := by
  refine mkV (by decide) (Nat.le_of_ble_eq_true rfl) ?_
  intro p e s m args below meth c A ls hC hr hlk hw hl
  have hx := hC.1
  have hb := hC.2.1
  have hl : lv_has ls 1 [(0, .ref (ad 0))] := hl
  unfold V_X2_keepRead at h
  refine lv_aload_n hx hb dX2_keepRead_0 rfl (lv_at hl 0 rfl) ?_
  refine lv_aload_n hx hb dX2_keepRead_1 rfl (lv_at hl 0 rfl) ?_
  refine gt (v := .int (g 0 1)) kfX2_46 0 hC hw rfl rfl dX2_keepRead_2 ?_
  refine pwHp_3 kpX2_56 hC hw dX2_keepRead_5 (fun H locs g_1 eg_1 hw => ?_)
  have h := h g_1 eg_1
  exact rtV (wf := (fun u : St => (wHp ad cI N u))) g_1 hC hr hlk hw h dX2_keepRead_8
def V_X2_dropRead (N : Nat) (g : St) (post : St → Prop) : Prop := ∀ g_1 : St, g_1 = us g 1 (g 0 2) → post g_1
abbrev RM_X2_dropRead : Room := { frames := 0, cells := 0, slots := 0, locals := 0 }
set_option maxHeartbeats 4000000 in
set_option maxRecDepth 100000 in
theorem m_X2_dropRead (l : Launch) (D : va_G) (cI cC cZ cJ : ClassId) (ad : Nat → Nat) (N : Nat) (g : St) {post : St → Prop} (h : V_X2_dropRead N g post) : MetV l yX2_dropRead cX2_dropRead 1 RM_X2_dropRead D (ty4 cI cC cZ cJ) (wHp ad cI N g) [.ref (ad 0)] (fun u : St => (wHp ad cI N u)) post := by
  refine mkV (by decide) (Nat.le_of_ble_eq_true rfl) ?_
  intro p e s m args below meth c A ls hC hr hlk hw hl
  have hx := hC.1
  have hb := hC.2.1
  have hl : lv_has ls 1 [(0, .ref (ad 0))] := hl
  unfold V_X2_dropRead at h
  refine lv_aload_n hx hb dX2_dropRead_0 rfl (lv_at hl 0 rfl) ?_
  refine lv_aload_n hx hb dX2_dropRead_1 rfl (lv_at hl 0 rfl) ?_
  refine gt (v := .int (g 0 2)) kfX2_56 0 hC hw rfl rfl dX2_dropRead_2 ?_
  refine pwHp_2 kpX2_46 hC hw dX2_dropRead_5 (fun H locs g_1 eg_1 hw => ?_)
  have h := h g_1 eg_1
  exact rtV (wf := (fun u : St => (wHp ad cI N u))) g_1 hC hr hlk hw h dX2_dropRead_8
def V_X2_replace (N : Nat) (x1 : Int32) (x2 : Int32) (g : St) (post : St → Prop) : Prop := (((2048 : Int32) ≤ x1 → V_X2_put N x1 x2 g (fun g_2 => post g_2)) ∧ (¬ (2048 : Int32) ≤ x1 → ∀ g_4 : St, g_4 = us g 3 (if x1 < (g 0 3) then x1 else (g 0 3)) → ∀ g_5 : St, g_5 = us g_4 4 (if (g_4 0 4) < (x1 + (1 : Int32)) then (x1 + (1 : Int32)) else (g_4 0 4)) → V_X2_put N x1 x2 g_5 (fun g_6 => post g_6)))
abbrev RM_X2_replace : Room := { frames := 1, cells := 0, slots := 0, locals := 22 }
set_option maxHeartbeats 4000000 in
set_option maxRecDepth 100000 in
theorem m_X2_replace (l : Launch) (D : va_G) (cI cC cZ cJ : ClassId) (ad : Nat → Nat) (N : Nat) (x1 : Int32) (x2 : Int32) (g : St) {post : St → Prop} (h : V_X2_replace N x1 x2 g post) : MetV l yX2_replace cX2_replace 3 RM_X2_replace D (ty4 cI cC cZ cJ) (wHp ad cI N g) [.ref (ad 0), .int x1, .int x2] (fun u : St => (wHp ad cI N u)) post := by
  refine mkV (by decide) (Nat.le_of_ble_eq_true rfl) ?_
  intro p e s m args below meth c A ls hC hr hlk hw hl
  have hx := hC.1
  have hb := hC.2.1
  have hl : lv_has ls 3 [(0, .ref (ad 0)), (1, .int x1), (2, .int x2)] := hl
  unfold V_X2_replace at h
  refine lv_iload_n hx hb dX2_replace_0 rfl (lv_at hl 1 rfl) ?_
  refine lv_sipush (v := (2048 : Int32)) hx hb dX2_replace_1 (by decide) ?_
  refine lv_icmp_ge (tgt := 33) hx hb dX2_replace_4 (by decide) (fun c_1 => ?_) (fun c_1 => ?_)
  · have h := h.1 c_1
    refine lv_aload_n hx hb dX2_replace_33 rfl (lv_at hl 0 rfl) ?_
    refine lv_iload_n hx hb dX2_replace_34 rfl (lv_at hl 1 rfl) ?_
    refine lv_iload_n hx hb dX2_replace_35 rfl (lv_at hl 2 rfl) ?_
    refine cVVw (q0 := 0) kmX2_49 hC hw (m_X2_put l D cI cC cZ cJ ad N x1 x2 g h) rfl rfl ⟨by decide, by decide⟩ rfl rfl rfl hl.1 (Nat.le_of_ble_eq_true rfl) dX2_replace_36 ⟨Nat.zero_le _, Nat.zero_le _⟩ rfl ?_
    intro g_2 H locs h hw
    exact rtV (wf := (fun u : St => (wHp ad cI N u))) g_2 hC hr hlk hw h dX2_replace_39
  · have h := h.2 c_1
    refine lv_aload_n hx hb dX2_replace_7 rfl (lv_at hl 0 rfl) ?_
    refine lv_aload_n hx hb dX2_replace_8 rfl (lv_at hl 0 rfl) ?_
    refine gt (v := .int (g 0 3)) kfX2_11 0 hC hw rfl rfl dX2_replace_9 ?_
    refine lv_iload_n hx hb dX2_replace_12 rfl (lv_at hl 1 rfl) ?_
    refine va_mmin hx hb (hC.2.2.1.trans hl.1.symm) hC.2.2.2.1 (hC.2.2.2.2 _ (List.mem_cons_of_mem _ kMX2_59)) (hC.2.2.2.2 _ (List.mem_cons_of_mem _ kMs_min)) (hC.2.2.2.2 _ (List.mem_cons_of_mem _ kMi)) (hC.2.2.2.2 _ (List.mem_cons_of_mem _ kMc_min)) (Nat.le_of_ble_eq_true rfl) (Nat.le_of_ble_eq_true rfl) (Nat.zero_le _) (Nat.zero_le _) dX2_replace_13 ?_
    refine pwHp_4 kpX2_11 hC hw dX2_replace_16 (fun H locs g_4 eg_4 hw => ?_)
    have h := h g_4 eg_4
    refine lv_aload_n hx hb dX2_replace_19 rfl (lv_at hl 0 rfl) ?_
    refine lv_aload_n hx hb dX2_replace_20 rfl (lv_at hl 0 rfl) ?_
    refine gt (v := .int (g_4 0 4)) kfX2_62 0 hC hw rfl rfl dX2_replace_21 ?_
    refine lv_iload_n hx hb dX2_replace_24 rfl (lv_at hl 1 rfl) ?_
    refine lv_iconst (v := (1 : Int32)) hx hb dX2_replace_25 (by decide) ?_
    refine lv_iadd hx hb dX2_replace_26 ?_
    refine va_mmax hx hb (hC.2.2.1.trans hl.1.symm) hC.2.2.2.1 (hC.2.2.2.2 _ (List.mem_cons_of_mem _ kMX2_18)) (hC.2.2.2.2 _ (List.mem_cons_of_mem _ kMs_max)) (hC.2.2.2.2 _ (List.mem_cons_of_mem _ kMi)) (hC.2.2.2.2 _ (List.mem_cons_of_mem _ kMc_max)) (Nat.le_of_ble_eq_true rfl) (Nat.le_of_ble_eq_true rfl) (Nat.zero_le _) (Nat.zero_le _) dX2_replace_27 ?_
    refine pwHp_5 kpX2_62 hC hw dX2_replace_30 (fun H locs g_5 eg_5 hw => ?_)
    have h := h g_5 eg_5
    refine lv_aload_n hx hb dX2_replace_33 rfl (lv_at hl 0 rfl) ?_
    refine lv_iload_n hx hb dX2_replace_34 rfl (lv_at hl 1 rfl) ?_
    refine lv_iload_n hx hb dX2_replace_35 rfl (lv_at hl 2 rfl) ?_
    refine cVVw (q0 := 0) kmX2_49 hC hw (m_X2_put l D cI cC cZ cJ ad N x1 x2 g_5 h) rfl rfl ⟨by decide, by decide⟩ rfl rfl rfl hl.1 (Nat.le_of_ble_eq_true rfl) dX2_replace_36 ⟨Nat.zero_le _, Nat.zero_le _⟩ rfl ?_
    intro g_6 H locs h hw
    exact rtV (wf := (fun u : St => (wHp ad cI N u))) g_6 hC hr hlk hw h dX2_replace_39
def V_X2_hasRoom (N : Nat) (x1 : Int32) (g : St) (post : Int32 → St → Prop) : Prop := (((g 0 0) < ((g 0 8) + x1) → post (0 : Int32) g) ∧ (¬ (g 0 0) < ((g 0 8) + x1) → post (1 : Int32) g))
abbrev RM_X2_hasRoom : Room := { frames := 0, cells := 0, slots := 0, locals := 0 }
set_option maxHeartbeats 4000000 in
set_option maxRecDepth 100000 in
theorem m_X2_hasRoom (l : Launch) (D : va_G) (cI cC cZ cJ : ClassId) (ad : Nat → Nat) (N : Nat) (x1 : Int32) (g : St) {post : Int32 → St → Prop} (h : V_X2_hasRoom N x1 g post) : MetI l yX2_hasRoom cX2_hasRoom 2 .boolean RM_X2_hasRoom D (ty4 cI cC cZ cJ) (wHp ad cI N g) [.ref (ad 0), .int x1] (fun u : St => (wHp ad cI N u)) post := by
  refine mkI (by decide) (Nat.le_of_ble_eq_true rfl) ?_
  intro p e s m args below meth c A ls hC hr hlk hw hl
  have hx := hC.1
  have hb := hC.2.1
  have hl : lv_has ls 2 [(0, .ref (ad 0)), (1, .int x1)] := hl
  unfold V_X2_hasRoom at h
  refine lv_aload_n hx hb dX2_hasRoom_0 rfl (lv_at hl 0 rfl) ?_
  refine gt (v := .int (g 0 8)) kfX2_65 0 hC hw rfl rfl dX2_hasRoom_1 ?_
  refine lv_iload_n hx hb dX2_hasRoom_4 rfl (lv_at hl 1 rfl) ?_
  refine lv_iadd hx hb dX2_hasRoom_5 ?_
  refine lv_aload_n hx hb dX2_hasRoom_6 rfl (lv_at hl 0 rfl) ?_
  refine gt (v := .int (g 0 0)) kfX2_24 0 hC hw rfl rfl dX2_hasRoom_7 ?_
  refine lv_icmp_gt (tgt := 17) hx hb dX2_hasRoom_10 (by decide) (fun c_1 => ?_) (fun c_1 => ?_)
  · have h := h.1 c_1
    refine lv_iconst (v := (0 : Int32)) hx hb dX2_hasRoom_17 (by decide) ?_
    exact rtI (wf := (fun u : St => (wHp ad cI N u))) g hC hr hlk hw (by decide) h dX2_hasRoom_18
  · have h := h.2 c_1
    refine lv_iconst (v := (1 : Int32)) hx hb dX2_hasRoom_13 (by decide) ?_
    refine lv_goto (tgt := 18) hx hb dX2_hasRoom_14 (by decide) ?_
    exact rtI (wf := (fun u : St => (wHp ad cI N u))) g hC hr hlk hw (by decide) h dX2_hasRoom_18
def V_X2_make (N : Nat) (x1 : Int32) (g : St) (post : Int32 → St → Prop) : Prop := ∀ x_1 : Int32, x_1 = ((g 0 5) + (g 0 8)) → ∀ g_2 : St, g_2 = us g 8 ((g 0 8) + x1) → post x_1 g_2
abbrev RM_X2_make : Room := { frames := 0, cells := 0, slots := 0, locals := 0 }
set_option maxHeartbeats 4000000 in
set_option maxRecDepth 100000 in
theorem m_X2_make (l : Launch) (D : va_G) (cI cC cZ cJ : ClassId) (ad : Nat → Nat) (N : Nat) (x1 : Int32) (g : St) {post : Int32 → St → Prop} (h : V_X2_make N x1 g post) : MetI l yX2_make cX2_make 3 .int RM_X2_make D (ty4 cI cC cZ cJ) (wHp ad cI N g) [.ref (ad 0), .int x1] (fun u : St => (wHp ad cI N u)) post := by
  refine mkI (by decide) (Nat.le_of_ble_eq_true rfl) ?_
  intro p e s m args below meth c A ls hC hr hlk hw hl
  have hx := hC.1
  have hb := hC.2.1
  have hl : lv_has ls 3 [(0, .ref (ad 0)), (1, .int x1)] := hl
  unfold V_X2_make at h
  refine lv_aload_n hx hb dX2_make_0 rfl (lv_at hl 0 rfl) ?_
  refine gt (v := .int (g 0 5)) kfX2_15 0 hC hw rfl rfl dX2_make_1 ?_
  refine lv_aload_n hx hb dX2_make_4 rfl (lv_at hl 0 rfl) ?_
  refine gt (v := .int (g 0 8)) kfX2_65 0 hC hw rfl rfl dX2_make_5 ?_
  refine lv_iadd hx hb dX2_make_8 ?_
  refine lv_topi (fun x_1 ex_1 => ?_)
  have h := h x_1 ex_1
  refine lv_istore_n (lv' := [(2, .int x_1), (0, .ref (ad 0)), (1, .int x1)]) hx hb dX2_make_9 rfl hl (by decide) rfl (fun ls hl => ?_)
  refine lv_aload_n hx hb dX2_make_10 rfl (lv_at hl 1 rfl) ?_
  refine lv_dup hx hb dX2_make_11 rfl ?_
  refine gt (v := .int (g 0 8)) kfX2_65 0 hC hw rfl rfl dX2_make_12 ?_
  refine lv_iload_n hx hb dX2_make_15 rfl (lv_at hl 2 rfl) ?_
  refine lv_iadd hx hb dX2_make_16 ?_
  refine pwHp_9 kpX2_65 hC hw dX2_make_17 (fun H locs g_2 eg_2 hw => ?_)
  have h := h g_2 eg_2
  refine lv_iload_n hx hb dX2_make_20 rfl (lv_at hl 0 rfl) ?_
  exact rtI (wf := (fun u : St => (wHp ad cI N u))) g_2 hC hr hlk hw rfl h dX2_make_21
def V_X2_startMove (N : Nat) (g : St) (post : St → Prop) : Prop := ((¬ (g 0 5) = (2048 : Int32) → ∀ g_2 : St, g_2 = us g 6 (2048 : Int32) → ∀ g_3 : St, g_3 = us g_2 7 (0 : Int32) → post g_3) ∧ ((g 0 5) = (2048 : Int32) → ∀ g_4 : St, g_4 = us g 6 ((2048 : Int32) + (g 0 0)) → ∀ g_5 : St, g_5 = us g_4 7 (0 : Int32) → post g_5))
abbrev RM_X2_startMove : Room := { frames := 0, cells := 0, slots := 0, locals := 0 }
set_option maxHeartbeats 4000000 in
set_option maxRecDepth 100000 in
theorem m_X2_startMove (l : Launch) (D : va_G) (cI cC cZ cJ : ClassId) (ad : Nat → Nat) (N : Nat) (g : St) {post : St → Prop} (h : V_X2_startMove N g post) : MetV l yX2_startMove cX2_startMove 1 RM_X2_startMove D (ty4 cI cC cZ cJ) (wHp ad cI N g) [.ref (ad 0)] (fun u : St => (wHp ad cI N u)) post := by
  refine mkV (by decide) (Nat.le_of_ble_eq_true rfl) ?_
  intro p e s m args below meth c A ls hC hr hlk hw hl
  have hx := hC.1
  have hb := hC.2.1
  have hl : lv_has ls 1 [(0, .ref (ad 0))] := hl
  unfold V_X2_startMove at h
  refine lv_aload_n hx hb dX2_startMove_0 rfl (lv_at hl 0 rfl) ?_
  refine lv_aload_n hx hb dX2_startMove_1 rfl (lv_at hl 0 rfl) ?_
  refine gt (v := .int (g 0 5)) kfX2_15 0 hC hw rfl rfl dX2_startMove_2 ?_
  refine lv_sipush (v := (2048 : Int32)) hx hb dX2_startMove_5 (by decide) ?_
  refine lv_icmp_ne (tgt := 22) hx hb dX2_startMove_8 (by decide) (fun c_1 => ?_) (fun c_1 => ?_)
  · have h := h.1 c_1
    refine lv_sipush (v := (2048 : Int32)) hx hb dX2_startMove_22 (by decide) ?_
    refine pwHp_7 kpX2_68 hC hw dX2_startMove_25 (fun H locs g_2 eg_2 hw => ?_)
    have h := h g_2 eg_2
    refine lv_aload_n hx hb dX2_startMove_28 rfl (lv_at hl 0 rfl) ?_
    refine lv_iconst (v := (0 : Int32)) hx hb dX2_startMove_29 (by decide) ?_
    refine pwHp_8 kpX2_71 hC hw dX2_startMove_30 (fun H locs g_3 eg_3 hw => ?_)
    have h := h g_3 eg_3
    exact rtV (wf := (fun u : St => (wHp ad cI N u))) g_3 hC hr hlk hw h dX2_startMove_33
  · have h := h.2 c_1
    refine lv_sipush (v := (2048 : Int32)) hx hb dX2_startMove_11 (by decide) ?_
    refine lv_aload_n hx hb dX2_startMove_14 rfl (lv_at hl 0 rfl) ?_
    refine gt (v := .int (g 0 0)) kfX2_24 0 hC hw rfl rfl dX2_startMove_15 ?_
    refine lv_iadd hx hb dX2_startMove_18 ?_
    refine lv_goto (tgt := 25) hx hb dX2_startMove_19 (by decide) ?_
    refine pwHp_7 kpX2_68 hC hw dX2_startMove_25 (fun H locs g_4 eg_4 hw => ?_)
    have h := h g_4 eg_4
    refine lv_aload_n hx hb dX2_startMove_28 rfl (lv_at hl 0 rfl) ?_
    refine lv_iconst (v := (0 : Int32)) hx hb dX2_startMove_29 (by decide) ?_
    refine pwHp_8 kpX2_71 hC hw dX2_startMove_30 (fun H locs g_5 eg_5 hw => ?_)
    have h := h g_5 eg_5
    exact rtV (wf := (fun u : St => (wHp ad cI N u))) g_5 hC hr hlk hw h dX2_startMove_33
def V_X2_objectLength (N : Nat) (x1 : Int32) (x2 : Int32) (g : St) (post : Int32 → St → Prop) : Prop := ((x1 = (5 : Int32) → V_X2_at N x2 g (fun r_3 g_2 => V_X10_held r_3 (fun r_4 => post ((1 : Int32) + r_4) g_2))) ∧ (x1 = (7 : Int32) → V_X2_at N (x2 + (1 : Int32)) g (fun r_6 g_5 => V_X10_held r_6 (fun r_7 => post ((2 : Int32) + r_7) g_5))) ∧ (¬ x1 = (5 : Int32) → ¬ x1 = (7 : Int32) → post (2 : Int32) g))
abbrev RM_X2_objectLength : Room := { frames := 1, cells := 0, slots := 0, locals := 21 }
set_option maxHeartbeats 4000000 in
set_option maxRecDepth 100000 in
theorem m_X2_objectLength (l : Launch) (D : va_G) (cI cC cZ cJ : ClassId) (ad : Nat → Nat) (N : Nat) (x1 : Int32) (x2 : Int32) (g : St) {post : Int32 → St → Prop} (h : V_X2_objectLength N x1 x2 g post) : MetI l yX2_objectLength cX2_objectLength 3 .int RM_X2_objectLength D (ty4 cI cC cZ cJ) (wHp ad cI N g) [.ref (ad 0), .int x1, .int x2] (fun u : St => (wHp ad cI N u)) post := by
  refine mkI (by decide) (Nat.le_of_ble_eq_true rfl) ?_
  intro p e s m args below meth c A ls hC hr hlk hw hl
  have hx := hC.1
  have hb := hC.2.1
  have hl : lv_has ls 3 [(0, .ref (ad 0)), (1, .int x1), (2, .int x2)] := hl
  unfold V_X2_objectLength at h
  refine lv_iload_n hx hb dX2_objectLength_0 rfl (lv_at hl 1 rfl) ?_
  by_cases c_1_5 : x1 = (5 : Int32)
  · refine lv_lookup (off := 27) (tgt := 28) hx hb dX2_objectLength_1 (by decide) (by rw [c_1_5]; decide) (by decide) ?_
    have h := h.1 c_1_5
    refine lv_iconst (v := (1 : Int32)) hx hb dX2_objectLength_28 (by decide) ?_
    refine lv_aload_n hx hb dX2_objectLength_29 rfl (lv_at hl 0 rfl) ?_
    refine lv_iload_n hx hb dX2_objectLength_30 rfl (lv_at hl 2 rfl) ?_
    refine cVIw (q0 := 0) kmX2_40 hC hw (m_X2_at l D cI cC cZ cJ ad N x2 g h) rfl rfl ⟨by decide, by decide⟩ rfl rfl rfl hl.1 (Nat.le_of_ble_eq_true rfl) dX2_objectLength_31 ⟨Nat.zero_le _, Nat.zero_le _⟩ rfl ?_
    intro r_3 g_2 H locs h hw
    refine cSI ksX2_37 hC (m_X10_held l r_3 h) rfl rfl ⟨by decide, by decide⟩ rfl hl.1 (Nat.le_of_ble_eq_true rfl) dX2_objectLength_34 ⟨Nat.zero_le _, Nat.zero_le _⟩ rfl ?_
    intro r_4 h
    refine lv_iadd hx hb dX2_objectLength_37 ?_
    exact rtI (wf := (fun u : St => (wHp ad cI N u))) g_2 hC hr hlk hw rfl h dX2_objectLength_38
  have h := h.2
  by_cases c_1_7 : x1 = (7 : Int32)
  · refine lv_lookup (off := 38) (tgt := 39) hx hb dX2_objectLength_1 (by decide) (by rw [c_1_7]; decide) (by decide) ?_
    have h := h.1 c_1_7
    refine lv_iconst (v := (2 : Int32)) hx hb dX2_objectLength_39 (by decide) ?_
    refine lv_aload_n hx hb dX2_objectLength_40 rfl (lv_at hl 0 rfl) ?_
    refine lv_iload_n hx hb dX2_objectLength_41 rfl (lv_at hl 2 rfl) ?_
    refine lv_iconst (v := (1 : Int32)) hx hb dX2_objectLength_42 (by decide) ?_
    refine lv_iadd hx hb dX2_objectLength_43 ?_
    refine cVIw (q0 := 0) kmX2_40 hC hw (m_X2_at l D cI cC cZ cJ ad N (x2 + (1 : Int32)) g h) rfl rfl ⟨by decide, by decide⟩ rfl rfl rfl hl.1 (Nat.le_of_ble_eq_true rfl) dX2_objectLength_44 ⟨Nat.zero_le _, Nat.zero_le _⟩ rfl ?_
    intro r_6 g_5 H locs h hw
    refine cSI ksX2_37 hC (m_X10_held l r_6 h) rfl rfl ⟨by decide, by decide⟩ rfl hl.1 (Nat.le_of_ble_eq_true rfl) dX2_objectLength_47 ⟨Nat.zero_le _, Nat.zero_le _⟩ rfl ?_
    intro r_7 h
    refine lv_iadd hx hb dX2_objectLength_50 ?_
    exact rtI (wf := (fun u : St => (wHp ad cI N u))) g_5 hC hr hlk hw rfl h dX2_objectLength_51
  have h := h.2
  refine lv_lookup (off := 51) (tgt := 52) hx hb dX2_objectLength_1 (by decide) (by refine (lv_osw c_1_5 (by decide)).trans ?_; refine (lv_osw c_1_7 (by decide)).trans ?_; rfl) (by decide) ?_
  have h := h c_1_5 c_1_7
  refine lv_iconst (v := (2 : Int32)) hx hb dX2_objectLength_52 (by decide) ?_
  exact rtI (wf := (fun u : St => (wHp ad cI N u))) g hC hr hlk hw rfl h dX2_objectLength_53
def V_X2_move_73 (N : Nat) (post : Int32 → St → Prop) : Nat → Int32 → Int32 → Int32 → Int32 → Int32 → St → Prop
  | 0, _, _, _, _, _, _ => False
  | n + 1, x2, x3, x5, x6, x7, g => ((x6 ≤ x7 → V_X10_of (8 : Int32) x5 (fun r_2 => V_X2_put N x3 r_2 g (fun g_3 => ∀ g_5 : St, g_5 = us g_3 7 ((g_3 0 7) + x6) → V_X10_of x2 x5 (fun r_6 => post r_6 g_5)))) ∧ (¬ x6 ≤ x7 → V_X2_at N (x3 + x7) g (fun r_8 g_7 => V_X2_put N (x5 + x7) r_8 g_7 (fun g_9 => ∀ x_11 : Int32, x_11 = x7 + (1 : Int32) → V_X2_move_73 N post n x2 x3 x5 x6 x_11 g_9))))
def V_X2_move (N : Nat) (n : Nat) (x1 : Int32) (g : St) (post : Int32 → St → Prop) : Prop := V_X10_tag x1 (fun r_12 => V_X10_held x1 (fun r_13 => ((r_12 < (4 : Int32) → post x1 g) ∧ (¬ r_12 < (4 : Int32) → (((2048 : Int32) ≤ r_13 → V_X2_at N r_13 g (fun r_17 g_16 => V_X10_tag r_17 (fun r_18 => ((¬ r_18 = (8 : Int32) → ∀ x_20 : Int32, x_20 = ((g_16 0 6) + (g_16 0 7)) → V_X2_objectLength N r_12 r_13 g_16 (fun r_22 g_21 => ∀ x_23 : Int32, x_23 = (0 : Int32) → V_X2_move_73 N post n r_12 r_13 x_20 r_22 x_23 g_21)) ∧ (r_18 = (8 : Int32) → V_X10_held r_17 (fun r_24 => V_X10_of r_12 r_24 (fun r_25 => post r_25 g_16))))))) ∧ (¬ (2048 : Int32) ≤ r_13 → post x1 g))))))
abbrev RM_X2_move : Room := { frames := 2, cells := 0, slots := 0, locals := 43 }
set_option maxHeartbeats 4000000 in
set_option maxRecDepth 100000 in
theorem m_X2_move (l : Launch) (D : va_G) (cI cC cZ cJ : ClassId) (ad : Nat → Nat) (N : Nat) (n : Nat) (x1 : Int32) (g : St) {post : Int32 → St → Prop} (h : V_X2_move N n x1 g post) : MetI l yX2_move cX2_move 8 .int RM_X2_move D (ty4 cI cC cZ cJ) (wHp ad cI N g) [.ref (ad 0), .int x1] (fun u : St => (wHp ad cI N u)) post := by
  refine mkI (by decide) (Nat.le_of_ble_eq_true rfl) ?_
  intro p e s m args below meth c A ls hC hr hlk hw hl
  have hx := hC.1
  have hb := hC.2.1
  have hl : lv_has ls 8 [(0, .ref (ad 0)), (1, .int x1)] := hl
  have w_73 : ∀ (n : Nat) (x2 : Int32) (x3 : Int32) (x5 : Int32) (x6 : Int32) (x7 : Int32) (g : St) (H : Heap) (locs : List Loc) (ls : Array Slot), V_X2_move_73 N post n x2 x3 x5 x6 x7 g → Wd D (ty4 cI cC cZ cJ) A s (wHp ad cI N g) H locs → lv_has ls 8 [(0, .ref (ad 0)), (2, .int x2), (3, .int x3), (5, .int x5), (6, .int x6), (7, .int x7)] → W p l e RM_X2_move s m args below meth c H locs 0 0 (QI below D (ty4 cI cC cZ cJ) A args s (fun u : St => (wHp ad cI N u)) post) (F0 m 73 ls []) := by
    intro n
    induction n with
    | zero =>
      intro x2 x3 x5 x6 x7 g H locs ls h
      exact False.elim h
    | succ n ih =>
      intro x2 x3 x5 x6 x7 g H locs ls h hw hl
      rw [V_X2_move_73] at h
      refine lv_iload hx hb dX2_move_73 (lv_at hl 5 rfl) ?_
      refine lv_iload hx hb dX2_move_75 (lv_at hl 4 rfl) ?_
      refine lv_icmp_ge (tgt := 103) hx hb dX2_move_77 (by decide) (fun c_1 => ?_) (fun c_1 => ?_)
      · have h := h.1 c_1
        refine lv_aload_n hx hb dX2_move_103 rfl (lv_at hl 0 rfl) ?_
        refine lv_iload_n hx hb dX2_move_104 rfl (lv_at hl 2 rfl) ?_
        refine lv_bipush (v := (8 : Int32)) hx hb dX2_move_105 (by decide) ?_
        refine lv_iload hx hb dX2_move_107 (lv_at hl 3 rfl) ?_
        refine cSI ksX2_53 hC (m_X10_of l (8 : Int32) x5 h) rfl rfl ⟨by decide, by decide⟩ rfl hl.1 (Nat.le_of_ble_eq_true rfl) dX2_move_109 ⟨Nat.zero_le _, Nat.zero_le _⟩ rfl ?_
        intro r_2 h
        refine cVVw (q0 := 0) kmX2_49 hC hw (m_X2_put l D cI cC cZ cJ ad N x3 r_2 g h) rfl rfl ⟨by decide, by decide⟩ rfl rfl rfl hl.1 (Nat.le_of_ble_eq_true rfl) dX2_move_112 ⟨Nat.zero_le _, Nat.zero_le _⟩ rfl ?_
        intro g_3 H locs h hw
        refine lv_aload_n hx hb dX2_move_115 rfl (lv_at hl 0 rfl) ?_
        refine lv_dup hx hb dX2_move_116 rfl ?_
        refine gt (v := .int (g_3 0 7)) kfX2_71 0 hC hw rfl rfl dX2_move_117 ?_
        refine lv_iload hx hb dX2_move_120 (lv_at hl 4 rfl) ?_
        refine lv_iadd hx hb dX2_move_122 ?_
        refine pwHp_8 kpX2_71 hC hw dX2_move_123 (fun H locs g_5 eg_5 hw => ?_)
        have h := h g_5 eg_5
        refine lv_iload_n hx hb dX2_move_126 rfl (lv_at hl 1 rfl) ?_
        refine lv_iload hx hb dX2_move_127 (lv_at hl 3 rfl) ?_
        refine cSI ksX2_53 hC (m_X10_of l x2 x5 h) rfl rfl ⟨by decide, by decide⟩ rfl hl.1 (Nat.le_of_ble_eq_true rfl) dX2_move_129 ⟨Nat.zero_le _, Nat.zero_le _⟩ rfl ?_
        intro r_6 h
        exact rtI (wf := (fun u : St => (wHp ad cI N u))) g_5 hC hr hlk hw rfl h dX2_move_132
      · have h := h.2 c_1
        refine lv_aload_n hx hb dX2_move_80 rfl (lv_at hl 0 rfl) ?_
        refine lv_iload hx hb dX2_move_81 (lv_at hl 3 rfl) ?_
        refine lv_iload hx hb dX2_move_83 (lv_at hl 5 rfl) ?_
        refine lv_iadd hx hb dX2_move_85 ?_
        refine lv_aload_n hx hb dX2_move_86 rfl (lv_at hl 0 rfl) ?_
        refine lv_iload_n hx hb dX2_move_87 rfl (lv_at hl 2 rfl) ?_
        refine lv_iload hx hb dX2_move_88 (lv_at hl 5 rfl) ?_
        refine lv_iadd hx hb dX2_move_90 ?_
        refine cVIw (q0 := 0) kmX2_40 hC hw (m_X2_at l D cI cC cZ cJ ad N (x3 + x7) g h) rfl rfl ⟨by decide, by decide⟩ rfl rfl rfl hl.1 (Nat.le_of_ble_eq_true rfl) dX2_move_91 ⟨Nat.zero_le _, Nat.zero_le _⟩ rfl ?_
        intro r_8 g_7 H locs h hw
        refine cVVw (q0 := 0) kmX2_49 hC hw (m_X2_put l D cI cC cZ cJ ad N (x5 + x7) r_8 g_7 h) rfl rfl ⟨by decide, by decide⟩ rfl rfl rfl hl.1 (Nat.le_of_ble_eq_true rfl) dX2_move_94 ⟨Nat.zero_le _, Nat.zero_le _⟩ rfl ?_
        intro g_9 H locs h hw
        obtain ⟨x_11, ex_11⟩ : ∃ y : Int32, y = x7 + (1 : Int32) := ⟨_, rfl⟩
        have h := h x_11 ex_11
        refine lv_iinc (v := x_11) (lv' := [(7, .int x_11), (0, .ref (ad 0)), (2, .int x2), (3, .int x3), (5, .int x5), (6, .int x6)]) hx hb dX2_move_97 hl (k := 5) rfl (by rw [ex_11]; rfl) (by decide) rfl (fun ls hl => ?_)
        refine lv_goto (tgt := 73) hx hb dX2_move_100 (by decide) ?_
        exact ih x2 x3 x5 x6 x_11 g_9 _ _ _ h hw (lv_sub hl [1, 2, 3, 4, 5, 0] rfl)
  unfold V_X2_move at h
  refine lv_iload_n hx hb dX2_move_0 rfl (lv_at hl 1 rfl) ?_
  refine cSI ksX2_33 hC (m_X10_tag l x1 h) rfl rfl ⟨by decide, by decide⟩ rfl hl.1 (Nat.le_of_ble_eq_true rfl) dX2_move_1 ⟨Nat.zero_le _, Nat.zero_le _⟩ rfl ?_
  intro r_12 h
  refine lv_istore_n (lv' := [(2, .int r_12), (0, .ref (ad 0)), (1, .int x1)]) hx hb dX2_move_4 rfl hl (by decide) rfl (fun ls hl => ?_)
  refine lv_iload_n hx hb dX2_move_5 rfl (lv_at hl 2 rfl) ?_
  refine cSI ksX2_37 hC (m_X10_held l x1 h) rfl rfl ⟨by decide, by decide⟩ rfl hl.1 (Nat.le_of_ble_eq_true rfl) dX2_move_6 ⟨Nat.zero_le _, Nat.zero_le _⟩ rfl ?_
  intro r_13 h
  refine lv_istore_n (lv' := [(3, .int r_13), (2, .int r_12), (0, .ref (ad 0)), (1, .int x1)]) hx hb dX2_move_9 rfl hl (by decide) rfl (fun ls hl => ?_)
  refine lv_iload_n hx hb dX2_move_10 rfl (lv_at hl 1 rfl) ?_
  refine lv_iconst (v := (4 : Int32)) hx hb dX2_move_11 (by decide) ?_
  refine lv_icmp_lt (tgt := 22) hx hb dX2_move_12 (by decide) (fun c_14 => ?_) (fun c_14 => ?_)
  · have h := h.1 c_14
    refine lv_iload_n hx hb dX2_move_22 rfl (lv_at hl 3 rfl) ?_
    exact rtI (wf := (fun u : St => (wHp ad cI N u))) g hC hr hlk hw rfl h dX2_move_23
  · have h := h.2 c_14
    refine lv_iload_n hx hb dX2_move_15 rfl (lv_at hl 0 rfl) ?_
    refine lv_sipush (v := (2048 : Int32)) hx hb dX2_move_16 (by decide) ?_
    refine lv_icmp_ge (tgt := 24) hx hb dX2_move_19 (by decide) (fun c_15 => ?_) (fun c_15 => ?_)
    · have h := h.1 c_15
      refine lv_aload_n hx hb dX2_move_24 rfl (lv_at hl 2 rfl) ?_
      refine lv_iload_n hx hb dX2_move_25 rfl (lv_at hl 0 rfl) ?_
      refine cVIw (q0 := 0) kmX2_40 hC hw (m_X2_at l D cI cC cZ cJ ad N r_13 g h) rfl rfl ⟨by decide, by decide⟩ rfl rfl rfl hl.1 (Nat.le_of_ble_eq_true rfl) dX2_move_26 ⟨Nat.zero_le _, Nat.zero_le _⟩ rfl ?_
      intro r_17 g_16 H locs h hw
      refine lv_istore (lv' := [(4, .int r_17), (3, .int r_13), (2, .int r_12), (0, .ref (ad 0)), (1, .int x1)]) hx hb dX2_move_29 hl (by decide) rfl (fun ls hl => ?_)
      refine lv_iload hx hb dX2_move_31 (lv_at hl 0 rfl) ?_
      refine cSI ksX2_33 hC (m_X10_tag l r_17 h) rfl rfl ⟨by decide, by decide⟩ rfl hl.1 (Nat.le_of_ble_eq_true rfl) dX2_move_33 ⟨Nat.zero_le _, Nat.zero_le _⟩ rfl ?_
      intro r_18 h
      refine lv_bipush (v := (8 : Int32)) hx hb dX2_move_36 (by decide) ?_
      refine lv_icmp_ne (tgt := 51) hx hb dX2_move_38 (by decide) (fun c_19 => ?_) (fun c_19 => ?_)
      · have h := h.1 c_19
        refine lv_aload_n hx hb dX2_move_51 rfl (lv_at hl 3 rfl) ?_
        refine gt (v := .int (g_16 0 6)) kfX2_68 0 hC hw rfl rfl dX2_move_52 ?_
        refine lv_aload_n hx hb dX2_move_55 rfl (lv_at hl 3 rfl) ?_
        refine gt (v := .int (g_16 0 7)) kfX2_71 0 hC hw rfl rfl dX2_move_56 ?_
        refine lv_iadd hx hb dX2_move_59 ?_
        refine lv_topi (fun x_20 ex_20 => ?_)
        have h := h x_20 ex_20
        refine lv_istore (lv' := [(5, .int x_20), (4, .int r_17), (3, .int r_13), (2, .int r_12), (0, .ref (ad 0)), (1, .int x1)]) hx hb dX2_move_60 hl (by decide) rfl (fun ls hl => ?_)
        refine lv_aload_n hx hb dX2_move_62 rfl (lv_at hl 4 rfl) ?_
        refine lv_iload_n hx hb dX2_move_63 rfl (lv_at hl 3 rfl) ?_
        refine lv_iload_n hx hb dX2_move_64 rfl (lv_at hl 2 rfl) ?_
        refine cVIw (q0 := 0) kmX2_86 hC hw (m_X2_objectLength l D cI cC cZ cJ ad N r_12 r_13 g_16 h) rfl rfl ⟨by decide, by decide⟩ rfl rfl rfl hl.1 (Nat.le_of_ble_eq_true rfl) dX2_move_65 ⟨Nat.zero_le _, Nat.zero_le _⟩ rfl ?_
        intro r_22 g_21 H locs h hw
        refine lv_istore (lv' := [(6, .int r_22), (5, .int x_20), (4, .int r_17), (3, .int r_13), (2, .int r_12), (0, .ref (ad 0)), (1, .int x1)]) hx hb dX2_move_68 hl (by decide) rfl (fun ls hl => ?_)
        refine lv_iconst (v := (0 : Int32)) hx hb dX2_move_70 (by decide) ?_
        refine lv_topi (fun x_23 ex_23 => ?_)
        have h := h x_23 ex_23
        refine lv_istore (lv' := [(7, .int x_23), (6, .int r_22), (5, .int x_20), (4, .int r_17), (3, .int r_13), (2, .int r_12), (0, .ref (ad 0)), (1, .int x1)]) hx hb dX2_move_71 hl (by decide) rfl (fun ls hl => ?_)
        exact w_73 n r_12 r_13 x_20 r_22 x_23 g_21 _ _ _ h hw (lv_sub hl [6, 5, 4, 2, 1, 0] rfl)
      · have h := h.2 c_19
        refine lv_iload_n hx hb dX2_move_41 rfl (lv_at hl 2 rfl) ?_
        refine lv_iload hx hb dX2_move_42 (lv_at hl 0 rfl) ?_
        refine cSI ksX2_37 hC (m_X10_held l r_17 h) rfl rfl ⟨by decide, by decide⟩ rfl hl.1 (Nat.le_of_ble_eq_true rfl) dX2_move_44 ⟨Nat.zero_le _, Nat.zero_le _⟩ rfl ?_
        intro r_24 h
        refine cSI ksX2_53 hC (m_X10_of l r_12 r_24 h) rfl rfl ⟨by decide, by decide⟩ rfl hl.1 (Nat.le_of_ble_eq_true rfl) dX2_move_47 ⟨Nat.zero_le _, Nat.zero_le _⟩ rfl ?_
        intro r_25 h
        exact rtI (wf := (fun u : St => (wHp ad cI N u))) g_16 hC hr hlk hw rfl h dX2_move_50
    · have h := h.2 c_15
      refine lv_iload_n hx hb dX2_move_22 rfl (lv_at hl 3 rfl) ?_
      exact rtI (wf := (fun u : St => (wHp ad cI N u))) g hC hr hlk hw rfl h dX2_move_23
def V_X2_moveAt_2 (N : Nat) (post : St → Prop) : Nat → Int32 → Int32 → St → Prop
  | 0, _, _, _ => False
  | n + 1, x2, x3, g => ((x2 ≤ x3 → post g) ∧ (¬ x2 ≤ x3 → V_X2_at N x3 g (fun r_3 g_2 => V_X2_move N n r_3 g_2 (fun r_5 g_4 => V_X2_put N x3 r_5 g_4 (fun g_6 => ∀ x_8 : Int32, x_8 = x3 + (1 : Int32) → V_X2_moveAt_2 N post n x2 x_8 g_6)))))
def V_X2_moveAt (N : Nat) (n : Nat) (x1 : Int32) (x2 : Int32) (g : St) (post : St → Prop) : Prop := V_X2_moveAt_2 N post n x2 x1 g
abbrev RM_X2_moveAt : Room := { frames := 3, cells := 0, slots := 0, locals := 70 }
set_option maxHeartbeats 4000000 in
set_option maxRecDepth 100000 in
theorem m_X2_moveAt (l : Launch) (D : va_G) (cI cC cZ cJ : ClassId) (ad : Nat → Nat) (N : Nat) (n : Nat) (x1 : Int32) (x2 : Int32) (g : St) {post : St → Prop} (h : V_X2_moveAt N n x1 x2 g post) : MetV l yX2_moveAt cX2_moveAt 4 RM_X2_moveAt D (ty4 cI cC cZ cJ) (wHp ad cI N g) [.ref (ad 0), .int x1, .int x2] (fun u : St => (wHp ad cI N u)) post := by
  refine mkV (by decide) (Nat.le_of_ble_eq_true rfl) ?_
  intro p e s m args below meth c A ls hC hr hlk hw hl
  have hx := hC.1
  have hb := hC.2.1
  have hl : lv_has ls 4 [(0, .ref (ad 0)), (1, .int x1), (2, .int x2)] := hl
  have w_2 : ∀ (n : Nat) (x2 : Int32) (x3 : Int32) (g : St) (H : Heap) (locs : List Loc) (ls : Array Slot), V_X2_moveAt_2 N post n x2 x3 g → Wd D (ty4 cI cC cZ cJ) A s (wHp ad cI N g) H locs → lv_has ls 4 [(0, .ref (ad 0)), (2, .int x2), (3, .int x3)] → W p l e RM_X2_moveAt s m args below meth c H locs 0 0 (QV below D (ty4 cI cC cZ cJ) A args s (fun u : St => (wHp ad cI N u)) post) (F0 m 2 ls []) := by
    intro n
    induction n with
    | zero =>
      intro x2 x3 g H locs ls h
      exact False.elim h
    | succ n ih =>
      intro x2 x3 g H locs ls h hw hl
      rw [V_X2_moveAt_2] at h
      refine lv_iload_n hx hb dX2_moveAt_2 rfl (lv_at hl 2 rfl) ?_
      refine lv_iload_n hx hb dX2_moveAt_3 rfl (lv_at hl 1 rfl) ?_
      refine lv_icmp_ge (tgt := 27) hx hb dX2_moveAt_4 (by decide) (fun c_1 => ?_) (fun c_1 => ?_)
      · have h := h.1 c_1
        exact rtV (wf := (fun u : St => (wHp ad cI N u))) g hC hr hlk hw h dX2_moveAt_27
      · have h := h.2 c_1
        refine lv_aload_n hx hb dX2_moveAt_7 rfl (lv_at hl 0 rfl) ?_
        refine lv_iload_n hx hb dX2_moveAt_8 rfl (lv_at hl 2 rfl) ?_
        refine lv_aload_n hx hb dX2_moveAt_9 rfl (lv_at hl 0 rfl) ?_
        refine lv_aload_n hx hb dX2_moveAt_10 rfl (lv_at hl 0 rfl) ?_
        refine lv_iload_n hx hb dX2_moveAt_11 rfl (lv_at hl 2 rfl) ?_
        refine cVIw (q0 := 0) kmX2_40 hC hw (m_X2_at l D cI cC cZ cJ ad N x3 g h) rfl rfl ⟨by decide, by decide⟩ rfl rfl rfl hl.1 (Nat.le_of_ble_eq_true rfl) dX2_moveAt_12 ⟨Nat.zero_le _, Nat.zero_le _⟩ rfl ?_
        intro r_3 g_2 H locs h hw
        refine cVIw (q0 := 0) kmX2_74 hC hw (m_X2_move l D cI cC cZ cJ ad N n r_3 g_2 h) rfl rfl ⟨by decide, by decide⟩ rfl rfl rfl hl.1 (Nat.le_of_ble_eq_true rfl) dX2_moveAt_15 ⟨Nat.zero_le _, Nat.zero_le _⟩ rfl ?_
        intro r_5 g_4 H locs h hw
        refine cVVw (q0 := 0) kmX2_49 hC hw (m_X2_put l D cI cC cZ cJ ad N x3 r_5 g_4 h) rfl rfl ⟨by decide, by decide⟩ rfl rfl rfl hl.1 (Nat.le_of_ble_eq_true rfl) dX2_moveAt_18 ⟨Nat.zero_le _, Nat.zero_le _⟩ rfl ?_
        intro g_6 H locs h hw
        obtain ⟨x_8, ex_8⟩ : ∃ y : Int32, y = x3 + (1 : Int32) := ⟨_, rfl⟩
        have h := h x_8 ex_8
        refine lv_iinc (v := x_8) (lv' := [(3, .int x_8), (0, .ref (ad 0)), (2, .int x2)]) hx hb dX2_moveAt_21 hl (k := 2) rfl (by rw [ex_8]; rfl) (by decide) rfl (fun ls hl => ?_)
        refine lv_goto (tgt := 2) hx hb dX2_moveAt_24 (by decide) ?_
        exact ih x2 x_8 g_6 _ _ _ h hw (lv_sub hl [1, 2, 0] rfl)
  unfold V_X2_moveAt at h
  refine lv_iload_n hx hb dX2_moveAt_0 rfl (lv_at hl 1 rfl) ?_
  refine lv_istore_n (lv' := [(3, .int x1), (0, .ref (ad 0)), (1, .int x1), (2, .int x2)]) hx hb dX2_moveAt_1 rfl hl (by decide) rfl (fun ls hl => ?_)
  exact w_2 n x2 x1 g _ _ _ h hw (lv_sub hl [1, 3, 0] rfl)
def V_X2_endMove_54 (N : Nat) (post : St → Prop) (n : Nat) (g : St) : Prop := ∀ g_1 : St, g_1 = us g 5 (g 0 6) → ∀ g_2 : St, g_2 = us g_1 8 (g_1 0 7) → ∀ g_3 : St, g_3 = us g_2 9 (g_2 0 8) → ∀ g_4 : St, g_4 = us g_3 10 ((g_3 0 10) + (1 : Int32)) → post g_4
def V_X2_endMove_14 (N : Nat) (post : St → Prop) : Nat → Int32 → St → Prop
  | 0, _, _ => False
  | n + 1, x1, g => (((g 0 7) ≤ x1 → V_X2_endMove_54 N post n g) ∧ (¬ (g 0 7) ≤ x1 → (((g 0 0) ≤ x1 → V_X2_endMove_54 N post n g) ∧ (¬ (g 0 0) ≤ x1 → V_X2_moveAt N n ((g 0 6) + x1) (((g 0 6) + x1) + (1 : Int32)) g (fun g_7 => ∀ x_9 : Int32, x_9 = x1 + (1 : Int32) → V_X2_endMove_14 N post n x_9 g_7)))))
def V_X2_endMove (N : Nat) (n : Nat) (g : St) (post : St → Prop) : Prop := V_X2_moveAt N n (g 0 3) (g 0 4) g (fun g_10 => ∀ x_12 : Int32, x_12 = (0 : Int32) → V_X2_endMove_14 N post n x_12 g_10)
abbrev RM_X2_endMove : Room := { frames := 4, cells := 0, slots := 0, locals := 93 }
set_option maxHeartbeats 4000000 in
set_option maxRecDepth 100000 in
theorem m_X2_endMove (l : Launch) (D : va_G) (cI cC cZ cJ : ClassId) (ad : Nat → Nat) (N : Nat) (n : Nat) (g : St) {post : St → Prop} (h : V_X2_endMove N n g post) : MetV l yX2_endMove cX2_endMove 2 RM_X2_endMove D (ty4 cI cC cZ cJ) (wHp ad cI N g) [.ref (ad 0)] (fun u : St => (wHp ad cI N u)) post := by
  refine mkV (by decide) (Nat.le_of_ble_eq_true rfl) ?_
  intro p e s m args below meth c A ls hC hr hlk hw hl
  have hx := hC.1
  have hb := hC.2.1
  have hl : lv_has ls 2 [(0, .ref (ad 0))] := hl
  have w_54 : ∀ (n : Nat) (g : St) (H : Heap) (locs : List Loc) (ls : Array Slot), V_X2_endMove_54 N post n g → Wd D (ty4 cI cC cZ cJ) A s (wHp ad cI N g) H locs → lv_has ls 2 [(0, .ref (ad 0))] → W p l e RM_X2_endMove s m args below meth c H locs 0 0 (QV below D (ty4 cI cC cZ cJ) A args s (fun u : St => (wHp ad cI N u)) post) (F0 m 54 ls []) := by
    intro n g H locs ls h hw hl
    unfold V_X2_endMove_54 at h
    refine lv_aload_n hx hb dX2_endMove_54 rfl (lv_at hl 0 rfl) ?_
    refine lv_aload_n hx hb dX2_endMove_55 rfl (lv_at hl 0 rfl) ?_
    refine gt (v := .int (g 0 6)) kfX2_68 0 hC hw rfl rfl dX2_endMove_56 ?_
    refine pwHp_6 kpX2_15 hC hw dX2_endMove_59 (fun H locs g_1 eg_1 hw => ?_)
    have h := h g_1 eg_1
    refine lv_aload_n hx hb dX2_endMove_62 rfl (lv_at hl 0 rfl) ?_
    refine lv_aload_n hx hb dX2_endMove_63 rfl (lv_at hl 0 rfl) ?_
    refine gt (v := .int (g_1 0 7)) kfX2_71 0 hC hw rfl rfl dX2_endMove_64 ?_
    refine pwHp_9 kpX2_65 hC hw dX2_endMove_67 (fun H locs g_2 eg_2 hw => ?_)
    have h := h g_2 eg_2
    refine lv_aload_n hx hb dX2_endMove_70 rfl (lv_at hl 0 rfl) ?_
    refine lv_aload_n hx hb dX2_endMove_71 rfl (lv_at hl 0 rfl) ?_
    refine gt (v := .int (g_2 0 8)) kfX2_65 0 hC hw rfl rfl dX2_endMove_72 ?_
    refine pwHp_10 kpX2_80 hC hw dX2_endMove_75 (fun H locs g_3 eg_3 hw => ?_)
    have h := h g_3 eg_3
    refine lv_aload_n hx hb dX2_endMove_78 rfl (lv_at hl 0 rfl) ?_
    refine lv_dup hx hb dX2_endMove_79 rfl ?_
    refine gt (v := .int (g_3 0 10)) kfX2_83 0 hC hw rfl rfl dX2_endMove_80 ?_
    refine lv_iconst (v := (1 : Int32)) hx hb dX2_endMove_83 (by decide) ?_
    refine lv_iadd hx hb dX2_endMove_84 ?_
    refine pwHp_11 kpX2_83 hC hw dX2_endMove_85 (fun H locs g_4 eg_4 hw => ?_)
    have h := h g_4 eg_4
    exact rtV (wf := (fun u : St => (wHp ad cI N u))) g_4 hC hr hlk hw h dX2_endMove_88
  have w_14 : ∀ (n : Nat) (x1 : Int32) (g : St) (H : Heap) (locs : List Loc) (ls : Array Slot), V_X2_endMove_14 N post n x1 g → Wd D (ty4 cI cC cZ cJ) A s (wHp ad cI N g) H locs → lv_has ls 2 [(0, .ref (ad 0)), (1, .int x1)] → W p l e RM_X2_endMove s m args below meth c H locs 0 0 (QV below D (ty4 cI cC cZ cJ) A args s (fun u : St => (wHp ad cI N u)) post) (F0 m 14 ls []) := by
    intro n
    induction n with
    | zero =>
      intro x1 g H locs ls h
      exact False.elim h
    | succ n ih =>
      intro x1 g H locs ls h hw hl
      rw [V_X2_endMove_14] at h
      refine lv_iload_n hx hb dX2_endMove_14 rfl (lv_at hl 1 rfl) ?_
      refine lv_aload_n hx hb dX2_endMove_15 rfl (lv_at hl 0 rfl) ?_
      refine gt (v := .int (g 0 7)) kfX2_71 0 hC hw rfl rfl dX2_endMove_16 ?_
      refine lv_icmp_ge (tgt := 54) hx hb dX2_endMove_19 (by decide) (fun c_5 => ?_) (fun c_5 => ?_)
      · have h := h.1 c_5
        exact w_54 n g _ _ _ h hw (lv_sub hl [0] rfl)
      · have h := h.2 c_5
        refine lv_iload_n hx hb dX2_endMove_22 rfl (lv_at hl 1 rfl) ?_
        refine lv_aload_n hx hb dX2_endMove_23 rfl (lv_at hl 0 rfl) ?_
        refine gt (v := .int (g 0 0)) kfX2_24 0 hC hw rfl rfl dX2_endMove_24 ?_
        refine lv_icmp_ge (tgt := 54) hx hb dX2_endMove_27 (by decide) (fun c_6 => ?_) (fun c_6 => ?_)
        · have h := h.1 c_6
          exact w_54 n g _ _ _ h hw (lv_sub hl [0] rfl)
        · have h := h.2 c_6
          refine lv_aload_n hx hb dX2_endMove_30 rfl (lv_at hl 0 rfl) ?_
          refine lv_aload_n hx hb dX2_endMove_31 rfl (lv_at hl 0 rfl) ?_
          refine gt (v := .int (g 0 6)) kfX2_68 0 hC hw rfl rfl dX2_endMove_32 ?_
          refine lv_iload_n hx hb dX2_endMove_35 rfl (lv_at hl 1 rfl) ?_
          refine lv_iadd hx hb dX2_endMove_36 ?_
          refine lv_aload_n hx hb dX2_endMove_37 rfl (lv_at hl 0 rfl) ?_
          refine gt (v := .int (g 0 6)) kfX2_68 0 hC hw rfl rfl dX2_endMove_38 ?_
          refine lv_iload_n hx hb dX2_endMove_41 rfl (lv_at hl 1 rfl) ?_
          refine lv_iadd hx hb dX2_endMove_42 ?_
          refine lv_iconst (v := (1 : Int32)) hx hb dX2_endMove_43 (by decide) ?_
          refine lv_iadd hx hb dX2_endMove_44 ?_
          refine cVVw (q0 := 0) kmX2_77 hC hw (m_X2_moveAt l D cI cC cZ cJ ad N n ((g 0 6) + x1) (((g 0 6) + x1) + (1 : Int32)) g h) rfl rfl ⟨by decide, by decide⟩ rfl rfl rfl hl.1 (Nat.le_of_ble_eq_true rfl) dX2_endMove_45 ⟨Nat.zero_le _, Nat.zero_le _⟩ rfl ?_
          intro g_7 H locs h hw
          obtain ⟨x_9, ex_9⟩ : ∃ y : Int32, y = x1 + (1 : Int32) := ⟨_, rfl⟩
          have h := h x_9 ex_9
          refine lv_iinc (v := x_9) (lv' := [(1, .int x_9), (0, .ref (ad 0))]) hx hb dX2_endMove_48 hl (k := 1) rfl (by rw [ex_9]; rfl) (by decide) rfl (fun ls hl => ?_)
          refine lv_goto (tgt := 14) hx hb dX2_endMove_51 (by decide) ?_
          exact ih x_9 g_7 _ _ _ h hw (lv_sub hl [1, 0] rfl)
  unfold V_X2_endMove at h
  refine lv_aload_n hx hb dX2_endMove_0 rfl (lv_at hl 0 rfl) ?_
  refine lv_aload_n hx hb dX2_endMove_1 rfl (lv_at hl 0 rfl) ?_
  refine gt (v := .int (g 0 3)) kfX2_11 0 hC hw rfl rfl dX2_endMove_2 ?_
  refine lv_aload_n hx hb dX2_endMove_5 rfl (lv_at hl 0 rfl) ?_
  refine gt (v := .int (g 0 4)) kfX2_62 0 hC hw rfl rfl dX2_endMove_6 ?_
  refine cVVw (q0 := 0) kmX2_77 hC hw (m_X2_moveAt l D cI cC cZ cJ ad N n (g 0 3) (g 0 4) g h) rfl rfl ⟨by decide, by decide⟩ rfl rfl rfl hl.1 (Nat.le_of_ble_eq_true rfl) dX2_endMove_9 ⟨Nat.zero_le _, Nat.zero_le _⟩ rfl ?_
  intro g_10 H locs h hw
  refine lv_iconst (v := (0 : Int32)) hx hb dX2_endMove_12 (by decide) ?_
  refine lv_topi (fun x_12 ex_12 => ?_)
  have h := h x_12 ex_12
  refine lv_istore_n (lv' := [(1, .int x_12), (0, .ref (ad 0))]) hx hb dX2_endMove_13 rfl hl (by decide) rfl (fun ls hl => ?_)
  exact w_14 n x_12 g_10 _ _ _ h hw (lv_sub hl [1, 0] rfl)
