def V_X2_moveRow_2 (N : Nat) (L : Nat) (post : St → Prop) : Nat → Int32 → Int32 → St → Prop
  | 0, _, _, _ => False
  | n + 1, x2, x3, g => ((x2 ≤ x3 → post g) ∧ (¬ x2 ≤ x3 → (((Int32.ofNat L) ≤ x3 → post g) ∧ (¬ (Int32.ofNat L) ≤ x3 → (vp_in x3 L ∧ V_X2_move N n (g 2 x3.toNatClampNeg) g (fun r_3 u_5 => ∀ g_4 : St, g_4 = mx u_5 2 (g 2) → (vp_in x3 L ∧ ∀ g_6 : St, g_6 = up g_4 2 x3.toNatClampNeg r_3 → ∀ x_7 : Int32, x_7 = x3 + (1 : Int32) → V_X2_moveRow_2 N L post n x2 x_7 g_6)))))))
def V_X2_moveRow (N : Nat) (L : Nat) (n : Nat) (x2 : Int32) (g : St) (post : St → Prop) : Prop := ∀ x_8 : Int32, x_8 = (0 : Int32) → V_X2_moveRow_2 N L post n x2 x_8 g
abbrev RM_X2_moveRow : Room := { frames := 3, cells := 0, slots := 0, locals := 70 }
set_option maxHeartbeats 4000000 in
set_option maxRecDepth 100000 in
theorem m_X2_moveRow (l : Launch) (D : va_G) (cI cC cZ cJ : ClassId) (ad : Nat → Nat) (rw : Nat) (N : Nat) (L : Nat) (n : Nat) (x2 : Int32) (g : St) {post : St → Prop} (h : V_X2_moveRow N L n x2 g post) : MetV l yX2_moveRow cX2_moveRow 4 RM_X2_moveRow D (ty4 cI cC cZ cJ) (wHpR ad rw cI N L g) [.ref (ad 0), .ref (rw), .int x2] (fun u : St => (wHpR ad rw cI N L u)) post := by
  refine mkV (by decide) (Nat.le_of_ble_eq_true rfl) ?_
  intro p e s m args below meth c A ls hC hr hlk hw hl
  have hx := hC.1
  have hb := hC.2.1
  have hl : lv_has ls 4 [(0, .ref (ad 0)), (1, .ref (rw)), (2, .int x2)] := hl
  have w_2 : ∀ (n : Nat) (x2 : Int32) (x3 : Int32) (g : St) (H : Heap) (locs : List Loc) (ls : Array Slot), V_X2_moveRow_2 N L post n x2 x3 g → Wd D (ty4 cI cC cZ cJ) A s (wHpR ad rw cI N L g) H locs → lv_has ls 4 [(0, .ref (ad 0)), (1, .ref (rw)), (2, .int x2), (3, .int x3)] → W p l e RM_X2_moveRow s m args below meth c H locs 0 0 (QV below D (ty4 cI cC cZ cJ) A args s (fun u : St => (wHpR ad rw cI N L u)) post) (F0 m 2 ls []) := by
    intro n
    induction n with
    | zero =>
      intro x2 x3 g H locs ls h
      exact False.elim h
    | succ n ih =>
      intro x2 x3 g H locs ls h hw hl
      rw [V_X2_moveRow_2] at h
      refine lv_iload_n hx hb dX2_moveRow_2 rfl (lv_at hl 3 rfl) ?_
      refine lv_iload_n hx hb dX2_moveRow_3 rfl (lv_at hl 2 rfl) ?_
      refine lv_icmp_ge (tgt := 29) hx hb dX2_moveRow_4 (by decide) (fun c_1 => ?_) (fun c_1 => ?_)
      · have h := h.1 c_1
        exact rtV (wf := (fun u : St => (wHpR ad rw cI N L u))) g hC hr hlk hw h dX2_moveRow_29
      · have h := h.2 c_1
        refine lv_iload_n hx hb dX2_moveRow_7 rfl (lv_at hl 3 rfl) ?_
        refine lv_aload_n hx hb dX2_moveRow_8 rfl (lv_at hl 1 rfl) ?_
        refine aln 2 0 (v := (Int32.ofNat L)) hC hw rfl rfl rfl dX2_moveRow_9 ?_
        refine lv_icmp_ge (tgt := 29) hx hb dX2_moveRow_10 (by decide) (fun c_2 => ?_) (fun c_2 => ?_)
        · have h := h.1 c_2
          exact rtV (wf := (fun u : St => (wHpR ad rw cI N L u))) g hC hr hlk hw h dX2_moveRow_29
        · have h := h.2 c_2
          refine lv_aload_n hx hb dX2_moveRow_13 rfl (lv_at hl 1 rfl) ?_
          refine lv_iload_n hx hb dX2_moveRow_14 rfl (lv_at hl 3 rfl) ?_
          refine lv_aload_n hx hb dX2_moveRow_15 rfl (lv_at hl 0 rfl) ?_
          refine lv_aload_n hx hb dX2_moveRow_16 rfl (lv_at hl 1 rfl) ?_
          refine lv_iload_n hx hb dX2_moveRow_17 rfl (lv_at hl 3 rfl) ?_
          refine ldI 2 0 hC hw rfl rfl h.1 dX2_moveRow_18 ?_
          have h := h.2
          refine eI_wHpR_wHp_0 kmX2_74 hC hw (m_X2_move l D cI cC cZ cJ ad N n (g 2 x3.toNatClampNeg) g h) rfl rfl ⟨by decide, by decide⟩ rfl hl.1 (Nat.le_of_ble_eq_true rfl) dX2_moveRow_19 ⟨Nat.zero_le _, Nat.zero_le _⟩ rfl ?_
          intro r_3 u_5 g_4 H locs eg_4 h hw
          have h := h g_4 eg_4
          refine swHpR_2 h.1 hC hw dX2_moveRow_22 (fun H locs g_6 eg_6 hw => ?_)
          have h := h.2 g_6 eg_6
          obtain ⟨x_7, ex_7⟩ : ∃ y : Int32, y = x3 + (1 : Int32) := ⟨_, rfl⟩
          have h := h x_7 ex_7
          refine lv_iinc (v := x_7) (lv' := [(3, .int x_7), (0, .ref (ad 0)), (1, .ref (rw)), (2, .int x2)]) hx hb dX2_moveRow_23 hl (k := 3) rfl (by rw [ex_7]; rfl) (by decide) rfl (fun ls hl => ?_)
          refine lv_goto (tgt := 2) hx hb dX2_moveRow_26 (by decide) ?_
          exact ih x2 x_7 g_6 _ _ _ h hw (lv_sub hl [1, 2, 3, 0] rfl)
  unfold V_X2_moveRow at h
  refine lv_iconst (v := (0 : Int32)) hx hb dX2_moveRow_0 (by decide) ?_
  refine lv_topi (fun x_8 ex_8 => ?_)
  have h := h x_8 ex_8
  refine lv_istore_n (lv' := [(3, .int x_8), (0, .ref (ad 0)), (1, .ref (rw)), (2, .int x2)]) hx hb dX2_moveRow_1 rfl hl (by decide) rfl (fun ls hl => ?_)
  exact w_2 n x2 x_8 g _ _ _ h hw (lv_sub hl [1, 2, 3, 0] rfl)
def V_X9_has (x1 : Int32) (g : St) (post : Int32 → St → Prop) : Prop := ((x1 < 0 → post (0 : Int32) g) ∧ (¬ x1 < 0 → (((g 0 0) ≤ x1 → post (0 : Int32) g) ∧ (¬ (g 0 0) ≤ x1 → (((40 : Int32) ≤ x1 → post (0 : Int32) g) ∧ (¬ (40 : Int32) ≤ x1 → post (1 : Int32) g))))))
abbrev RM_X9_has : Room := { frames := 0, cells := 0, slots := 0, locals := 0 }
set_option maxHeartbeats 4000000 in
set_option maxRecDepth 100000 in
theorem m_X9_has (l : Launch) (D : va_G) (cI cC cZ cJ : ClassId) (ad : Nat → Nat) (x1 : Int32) (g : St) {post : Int32 → St → Prop} (h : V_X9_has x1 g post) : MetI l yX9_has cX9_has 2 .boolean RM_X9_has D (ty4 cI cC cZ cJ) (wSy ad cI cC g) [.ref (ad 0), .int x1] (fun u : St => (wSy ad cI cC u)) post := by
  refine mkI (by decide) (Nat.le_of_ble_eq_true rfl) ?_
  intro p e s m args below meth c A ls hC hr hlk hw hl
  have hx := hC.1
  have hb := hC.2.1
  have hl : lv_has ls 2 [(0, .ref (ad 0)), (1, .int x1)] := hl
  unfold V_X9_has at h
  refine lv_iload_n hx hb dX9_has_0 rfl (lv_at hl 1 rfl) ?_
  refine lv_if_lt (tgt := 22) hx hb dX9_has_1 (by decide) (fun c_1 => ?_) (fun c_1 => ?_)
  · have h := h.1 c_1
    refine lv_iconst (v := (0 : Int32)) hx hb dX9_has_22 (by decide) ?_
    exact rtI (wf := (fun u : St => (wSy ad cI cC u))) g hC hr hlk hw (by decide) h dX9_has_23
  · have h := h.2 c_1
    refine lv_iload_n hx hb dX9_has_4 rfl (lv_at hl 1 rfl) ?_
    refine lv_aload_n hx hb dX9_has_5 rfl (lv_at hl 0 rfl) ?_
    refine gt (v := .int (g 0 0)) kfX9_49 0 hC hw rfl rfl dX9_has_6 ?_
    refine lv_icmp_ge (tgt := 22) hx hb dX9_has_9 (by decide) (fun c_2 => ?_) (fun c_2 => ?_)
    · have h := h.1 c_2
      refine lv_iconst (v := (0 : Int32)) hx hb dX9_has_22 (by decide) ?_
      exact rtI (wf := (fun u : St => (wSy ad cI cC u))) g hC hr hlk hw (by decide) h dX9_has_23
    · have h := h.2 c_2
      refine lv_iload_n hx hb dX9_has_12 rfl (lv_at hl 1 rfl) ?_
      refine lv_bipush (v := (40 : Int32)) hx hb dX9_has_13 (by decide) ?_
      refine lv_icmp_ge (tgt := 22) hx hb dX9_has_15 (by decide) (fun c_3 => ?_) (fun c_3 => ?_)
      · have h := h.1 c_3
        refine lv_iconst (v := (0 : Int32)) hx hb dX9_has_22 (by decide) ?_
        exact rtI (wf := (fun u : St => (wSy ad cI cC u))) g hC hr hlk hw (by decide) h dX9_has_23
      · have h := h.2 c_3
        refine lv_iconst (v := (1 : Int32)) hx hb dX9_has_18 (by decide) ?_
        refine lv_goto (tgt := 23) hx hb dX9_has_19 (by decide) ?_
        exact rtI (wf := (fun u : St => (wSy ad cI cC u))) g hC hr hlk hw (by decide) h dX9_has_23
def V_X9_word (x1 : Int32) (g : St) (post : Int32 → St → Prop) : Prop := V_X9_has x1 g (fun r_1 g_2 => ((r_1 = 0 → post (0 : Int32) g_2) ∧ (¬ r_1 = 0 → (vp_in x1 40 ∧ post (g_2 4 x1.toNatClampNeg) g_2))))
abbrev RM_X9_word : Room := { frames := 1, cells := 0, slots := 0, locals := 21 }
set_option maxHeartbeats 4000000 in
set_option maxRecDepth 100000 in
theorem m_X9_word (l : Launch) (D : va_G) (cI cC cZ cJ : ClassId) (ad : Nat → Nat) (x1 : Int32) (g : St) {post : Int32 → St → Prop} (h : V_X9_word x1 g post) : MetI l yX9_word cX9_word 2 .int RM_X9_word D (ty4 cI cC cZ cJ) (wSy ad cI cC g) [.ref (ad 0), .int x1] (fun u : St => (wSy ad cI cC u)) post := by
  refine mkI (by decide) (Nat.le_of_ble_eq_true rfl) ?_
  intro p e s m args below meth c A ls hC hr hlk hw hl
  have hx := hC.1
  have hb := hC.2.1
  have hl : lv_has ls 2 [(0, .ref (ad 0)), (1, .int x1)] := hl
  unfold V_X9_word at h
  refine lv_aload_n hx hb dX9_word_0 rfl (lv_at hl 0 rfl) ?_
  refine lv_iload_n hx hb dX9_word_1 rfl (lv_at hl 1 rfl) ?_
  refine cVIw (q0 := 0) kmX9_53 hC hw (m_X9_has l D cI cC cZ cJ ad x1 g h) rfl rfl ⟨by decide, by decide⟩ rfl rfl rfl hl.1 (Nat.le_of_ble_eq_true rfl) dX9_word_2 ⟨Nat.zero_le _, Nat.zero_le _⟩ rfl ?_
  intro r_1 g_2 H locs h hw
  refine lv_if_eq (tgt := 17) hx hb dX9_word_5 (by decide) (fun c_3 => ?_) (fun c_3 => ?_)
  · have h := h.1 c_3
    refine lv_iconst (v := (0 : Int32)) hx hb dX9_word_17 (by decide) ?_
    exact rtI (wf := (fun u : St => (wSy ad cI cC u))) g_2 hC hr hlk hw rfl h dX9_word_18
  · have h := h.2 c_3
    refine lv_aload_n hx hb dX9_word_8 rfl (lv_at hl 0 rfl) ?_
    refine gt (v := .ref (ad 4)) kfX9_20 0 hC hw rfl rfl dX9_word_9 ?_
    refine lv_iload_n hx hb dX9_word_12 rfl (lv_at hl 1 rfl) ?_
    refine ldI 4 0 hC hw rfl rfl h.1 dX9_word_13 ?_
    have h := h.2
    refine lv_goto (tgt := 18) hx hb dX9_word_14 (by decide) ?_
    exact rtI (wf := (fun u : St => (wSy ad cI cC u))) g_2 hC hr hlk hw rfl h dX9_word_18
def V_X9_setWord (x1 : Int32) (x2 : Int32) (g : St) (post : St → Prop) : Prop := V_X9_has x1 g (fun r_1 g_2 => ((r_1 = 0 → post g_2) ∧ (¬ r_1 = 0 → (vp_in x1 40 ∧ ∀ g_4 : St, g_4 = up g_2 4 x1.toNatClampNeg x2 → post g_4))))
abbrev RM_X9_setWord : Room := { frames := 1, cells := 0, slots := 0, locals := 21 }
set_option maxHeartbeats 4000000 in
set_option maxRecDepth 100000 in
theorem m_X9_setWord (l : Launch) (D : va_G) (cI cC cZ cJ : ClassId) (ad : Nat → Nat) (x1 : Int32) (x2 : Int32) (g : St) {post : St → Prop} (h : V_X9_setWord x1 x2 g post) : MetV l yX9_setWord cX9_setWord 3 RM_X9_setWord D (ty4 cI cC cZ cJ) (wSy ad cI cC g) [.ref (ad 0), .int x1, .int x2] (fun u : St => (wSy ad cI cC u)) post := by
  refine mkV (by decide) (Nat.le_of_ble_eq_true rfl) ?_
  intro p e s m args below meth c A ls hC hr hlk hw hl
  have hx := hC.1
  have hb := hC.2.1
  have hl : lv_has ls 3 [(0, .ref (ad 0)), (1, .int x1), (2, .int x2)] := hl
  unfold V_X9_setWord at h
  refine lv_aload_n hx hb dX9_setWord_0 rfl (lv_at hl 0 rfl) ?_
  refine lv_iload_n hx hb dX9_setWord_1 rfl (lv_at hl 1 rfl) ?_
  refine cVIw (q0 := 0) kmX9_53 hC hw (m_X9_has l D cI cC cZ cJ ad x1 g h) rfl rfl ⟨by decide, by decide⟩ rfl rfl rfl hl.1 (Nat.le_of_ble_eq_true rfl) dX9_setWord_2 ⟨Nat.zero_le _, Nat.zero_le _⟩ rfl ?_
  intro r_1 g_2 H locs h hw
  refine lv_if_eq (tgt := 15) hx hb dX9_setWord_5 (by decide) (fun c_3 => ?_) (fun c_3 => ?_)
  · have h := h.1 c_3
    exact rtV (wf := (fun u : St => (wSy ad cI cC u))) g_2 hC hr hlk hw h dX9_setWord_15
  · have h := h.2 c_3
    refine lv_aload_n hx hb dX9_setWord_8 rfl (lv_at hl 0 rfl) ?_
    refine gt (v := .ref (ad 4)) kfX9_20 0 hC hw rfl rfl dX9_setWord_9 ?_
    refine lv_iload_n hx hb dX9_setWord_12 rfl (lv_at hl 1 rfl) ?_
    refine lv_iload_n hx hb dX9_setWord_13 rfl (lv_at hl 2 rfl) ?_
    refine swSy_4 h.1 hC hw dX9_setWord_14 (fun H locs g_4 eg_4 hw => ?_)
    have h := h.2 g_4 eg_4
    exact rtV (wf := (fun u : St => (wSy ad cI cC u))) g_4 hC hr hlk hw h dX9_setWord_15
def V_X9_operator (x1 : Int32) (g : St) (post : Int32 → St → Prop) : Prop := V_X9_has x1 g (fun r_1 g_2 => ((r_1 = 0 → post (0 : Int32) g_2) ∧ (¬ r_1 = 0 → (vp_in x1 40 ∧ post (g_2 3 x1.toNatClampNeg) g_2))))
abbrev RM_X9_operator : Room := { frames := 1, cells := 0, slots := 0, locals := 21 }
set_option maxHeartbeats 4000000 in
set_option maxRecDepth 100000 in
theorem m_X9_operator (l : Launch) (D : va_G) (cI cC cZ cJ : ClassId) (ad : Nat → Nat) (x1 : Int32) (g : St) {post : Int32 → St → Prop} (h : V_X9_operator x1 g post) : MetI l yX9_operator cX9_operator 2 .int RM_X9_operator D (ty4 cI cC cZ cJ) (wSy ad cI cC g) [.ref (ad 0), .int x1] (fun u : St => (wSy ad cI cC u)) post := by
  refine mkI (by decide) (Nat.le_of_ble_eq_true rfl) ?_
  intro p e s m args below meth c A ls hC hr hlk hw hl
  have hx := hC.1
  have hb := hC.2.1
  have hl : lv_has ls 2 [(0, .ref (ad 0)), (1, .int x1)] := hl
  unfold V_X9_operator at h
  refine lv_aload_n hx hb dX9_operator_0 rfl (lv_at hl 0 rfl) ?_
  refine lv_iload_n hx hb dX9_operator_1 rfl (lv_at hl 1 rfl) ?_
  refine cVIw (q0 := 0) kmX9_53 hC hw (m_X9_has l D cI cC cZ cJ ad x1 g h) rfl rfl ⟨by decide, by decide⟩ rfl rfl rfl hl.1 (Nat.le_of_ble_eq_true rfl) dX9_operator_2 ⟨Nat.zero_le _, Nat.zero_le _⟩ rfl ?_
  intro r_1 g_2 H locs h hw
  refine lv_if_eq (tgt := 17) hx hb dX9_operator_5 (by decide) (fun c_3 => ?_) (fun c_3 => ?_)
  · have h := h.1 c_3
    refine lv_iconst (v := (0 : Int32)) hx hb dX9_operator_17 (by decide) ?_
    exact rtI (wf := (fun u : St => (wSy ad cI cC u))) g_2 hC hr hlk hw rfl h dX9_operator_18
  · have h := h.2 c_3
    refine lv_aload_n hx hb dX9_operator_8 rfl (lv_at hl 0 rfl) ?_
    refine gt (v := .ref (ad 3)) kfX9_17 0 hC hw rfl rfl dX9_operator_9 ?_
    refine lv_iload_n hx hb dX9_operator_12 rfl (lv_at hl 1 rfl) ?_
    refine ldI 3 0 hC hw rfl rfl h.1 dX9_operator_13 ?_
    have h := h.2
    refine lv_goto (tgt := 18) hx hb dX9_operator_14 (by decide) ?_
    exact rtI (wf := (fun u : St => (wSy ad cI cC u))) g_2 hC hr hlk hw rfl h dX9_operator_18
def V_X9_length (x1 : Int32) (g : St) (post : Int32 → St → Prop) : Prop := V_X9_has x1 g (fun r_1 g_2 => ((r_1 = 0 → post (0 : Int32) g_2) ∧ (¬ r_1 = 0 → (vp_in x1 40 ∧ post (g_2 2 x1.toNatClampNeg) g_2))))
abbrev RM_X9_length : Room := { frames := 1, cells := 0, slots := 0, locals := 21 }
set_option maxHeartbeats 4000000 in
set_option maxRecDepth 100000 in
theorem m_X9_length (l : Launch) (D : va_G) (cI cC cZ cJ : ClassId) (ad : Nat → Nat) (x1 : Int32) (g : St) {post : Int32 → St → Prop} (h : V_X9_length x1 g post) : MetI l yX9_length cX9_length 2 .int RM_X9_length D (ty4 cI cC cZ cJ) (wSy ad cI cC g) [.ref (ad 0), .int x1] (fun u : St => (wSy ad cI cC u)) post := by
  refine mkI (by decide) (Nat.le_of_ble_eq_true rfl) ?_
  intro p e s m args below meth c A ls hC hr hlk hw hl
  have hx := hC.1
  have hb := hC.2.1
  have hl : lv_has ls 2 [(0, .ref (ad 0)), (1, .int x1)] := hl
  unfold V_X9_length at h
  refine lv_aload_n hx hb dX9_length_0 rfl (lv_at hl 0 rfl) ?_
  refine lv_iload_n hx hb dX9_length_1 rfl (lv_at hl 1 rfl) ?_
  refine cVIw (q0 := 0) kmX9_53 hC hw (m_X9_has l D cI cC cZ cJ ad x1 g h) rfl rfl ⟨by decide, by decide⟩ rfl rfl rfl hl.1 (Nat.le_of_ble_eq_true rfl) dX9_length_2 ⟨Nat.zero_le _, Nat.zero_le _⟩ rfl ?_
  intro r_1 g_2 H locs h hw
  refine lv_if_eq (tgt := 17) hx hb dX9_length_5 (by decide) (fun c_3 => ?_) (fun c_3 => ?_)
  · have h := h.1 c_3
    refine lv_iconst (v := (0 : Int32)) hx hb dX9_length_17 (by decide) ?_
    exact rtI (wf := (fun u : St => (wSy ad cI cC u))) g_2 hC hr hlk hw rfl h dX9_length_18
  · have h := h.2 c_3
    refine lv_aload_n hx hb dX9_length_8 rfl (lv_at hl 0 rfl) ?_
    refine gt (v := .ref (ad 2)) kfX9_13 0 hC hw rfl rfl dX9_length_9 ?_
    refine lv_iload_n hx hb dX9_length_12 rfl (lv_at hl 1 rfl) ?_
    refine ldI 2 0 hC hw rfl rfl h.1 dX9_length_13 ?_
    have h := h.2
    refine lv_goto (tgt := 18) hx hb dX9_length_14 (by decide) ?_
    exact rtI (wf := (fun u : St => (wSy ad cI cC u))) g_2 hC hr hlk hw rfl h dX9_length_18
def V_X9_letter (x1 : Int32) (x2 : Int32) (g : St) (post : Int32 → St → Prop) : Prop := ∀ x_1 : Int32, x_1 = ((x1 * (5 : Int32)) + x2) → ((x_1 < 0 → post (32 : Int32) g) ∧ (¬ x_1 < 0 → (((200 : Int32) ≤ x_1 → post (32 : Int32) g) ∧ (¬ (200 : Int32) ≤ x_1 → (vp_in x_1 200 ∧ (narrow .char (.int (g 1 x_1.toNatClampNeg)) = .int (g 1 x_1.toNatClampNeg) ∧ post (g 1 x_1.toNatClampNeg) g))))))
abbrev RM_X9_letter : Room := { frames := 0, cells := 0, slots := 0, locals := 0 }
set_option maxHeartbeats 4000000 in
set_option maxRecDepth 100000 in
theorem m_X9_letter (l : Launch) (D : va_G) (cI cC cZ cJ : ClassId) (ad : Nat → Nat) (x1 : Int32) (x2 : Int32) (g : St) {post : Int32 → St → Prop} (h : V_X9_letter x1 x2 g post) : MetI l yX9_letter cX9_letter 4 .char RM_X9_letter D (ty4 cI cC cZ cJ) (wSy ad cI cC g) [.ref (ad 0), .int x1, .int x2] (fun u : St => (wSy ad cI cC u)) post := by
  refine mkI (by decide) (Nat.le_of_ble_eq_true rfl) ?_
  intro p e s m args below meth c A ls hC hr hlk hw hl
  have hx := hC.1
  have hb := hC.2.1
  have hl : lv_has ls 4 [(0, .ref (ad 0)), (1, .int x1), (2, .int x2)] := hl
  unfold V_X9_letter at h
  refine lv_iload_n hx hb dX9_letter_0 rfl (lv_at hl 1 rfl) ?_
  refine lv_iconst (v := (5 : Int32)) hx hb dX9_letter_1 (by decide) ?_
  refine lv_imul hx hb dX9_letter_2 ?_
  refine lv_iload_n hx hb dX9_letter_3 rfl (lv_at hl 2 rfl) ?_
  refine lv_iadd hx hb dX9_letter_4 ?_
  refine lv_topi (fun x_1 ex_1 => ?_)
  have h := h x_1 ex_1
  refine lv_istore_n (lv' := [(3, .int x_1), (0, .ref (ad 0)), (1, .int x1), (2, .int x2)]) hx hb dX9_letter_5 rfl hl (by decide) rfl (fun ls hl => ?_)
  refine lv_iload_n hx hb dX9_letter_6 rfl (lv_at hl 0 rfl) ?_
  refine lv_if_lt (tgt := 28) hx hb dX9_letter_7 (by decide) (fun c_2 => ?_) (fun c_2 => ?_)
  · have h := h.1 c_2
    refine lv_bipush (v := (32 : Int32)) hx hb dX9_letter_28 (by decide) ?_
    exact rtI (wf := (fun u : St => (wSy ad cI cC u))) g hC hr hlk hw (by decide) h dX9_letter_30
  · have h := h.2 c_2
    refine lv_iload_n hx hb dX9_letter_10 rfl (lv_at hl 0 rfl) ?_
    refine lv_aload_n hx hb dX9_letter_11 rfl (lv_at hl 1 rfl) ?_
    refine gt (v := .ref (ad 1)) kfX9_9 0 hC hw rfl rfl dX9_letter_12 ?_
    refine aln 1 1 (v := (200 : Int32)) hC hw rfl rfl (show Int32.ofNat 200 = (200 : Int32) by decide) dX9_letter_15 ?_
    refine lv_icmp_ge (tgt := 28) hx hb dX9_letter_16 (by decide) (fun c_3 => ?_) (fun c_3 => ?_)
    · have h := h.1 c_3
      refine lv_bipush (v := (32 : Int32)) hx hb dX9_letter_28 (by decide) ?_
      exact rtI (wf := (fun u : St => (wSy ad cI cC u))) g hC hr hlk hw (by decide) h dX9_letter_30
    · have h := h.2 c_3
      refine lv_aload_n hx hb dX9_letter_19 rfl (lv_at hl 1 rfl) ?_
      refine gt (v := .ref (ad 1)) kfX9_9 0 hC hw rfl rfl dX9_letter_20 ?_
      refine lv_iload_n hx hb dX9_letter_23 rfl (lv_at hl 0 rfl) ?_
      refine ldC 1 1 hC hw rfl rfl h.1 dX9_letter_24 ?_
      have h := h.2
      refine lv_goto (tgt := 30) hx hb dX9_letter_25 (by decide) ?_
      exact rtI (wf := (fun u : St => (wSy ad cI cC u))) g hC hr hlk hw h.1 h.2 dX9_letter_30
def V_X9_isNamed_14 (L : Nat) (post : Int32 → St → Prop) : Nat → Int32 → Int32 → Int32 → St → Prop
  | 0, _, _, _, _ => False
  | n + 1, x1, x3, x4, g => ((x3 ≤ x4 → post (1 : Int32) g) ∧ (¬ x3 ≤ x4 → (((Int32.ofNat L) ≤ x4 → post (1 : Int32) g) ∧ (¬ (Int32.ofNat L) ≤ x4 → V_X9_letter x1 x4 g (fun r_3 u_5 => ∀ g_4 : St, g_4 = mx u_5 5 (g 5) → (vp_in x4 L ∧ ((r_3 = (g_4 5 x4.toNatClampNeg) → ∀ x_7 : Int32, x_7 = x4 + (1 : Int32) → V_X9_isNamed_14 L post n x1 x3 x_7 g_4) ∧ (¬ r_3 = (g_4 5 x4.toNatClampNeg) → post (0 : Int32) g_4))))))))
def V_X9_isNamed (L : Nat) (n : Nat) (x1 : Int32) (x3 : Int32) (g : St) (post : Int32 → St → Prop) : Prop := V_X9_length x1 g (fun r_8 u_10 => ∀ g_9 : St, g_9 = mx u_10 5 (g 5) → ((r_8 = x3 → ∀ x_12 : Int32, x_12 = (0 : Int32) → V_X9_isNamed_14 L post n x1 x3 x_12 g_9) ∧ (¬ r_8 = x3 → post (0 : Int32) g_9)))
abbrev RM_X9_isNamed : Room := { frames := 2, cells := 0, slots := 0, locals := 42 }
set_option maxHeartbeats 4000000 in
set_option maxRecDepth 100000 in
theorem m_X9_isNamed (l : Launch) (D : va_G) (cI cC cZ cJ : ClassId) (ad : Nat → Nat) (nm : Nat) (L : Nat) (ea : Nat → Nat → Nat) (n : Nat) (x1 : Int32) (x3 : Int32) (g : St) {post : Int32 → St → Prop} (h : V_X9_isNamed L n x1 x3 g post) : MetIE ea l yX9_isNamed cX9_isNamed 5 .boolean RM_X9_isNamed D (ty4 cI cC cZ cJ) (wSyN ad nm cI cC L g) [.ref (ad 0), .int x1, .ref (nm), .int x3] (fun u : St => (wSyN ad nm cI cC L u)) post := by
  refine mkIE (by decide) (Nat.le_of_ble_eq_true rfl) ?_
  intro p e s m args below meth c A ls hC hr hlk hw hE hl
  have hx := hC.1
  have hb := hC.2.1
  have hl : lv_has ls 5 [(0, .ref (ad 0)), (1, .int x1), (2, .ref (nm)), (3, .int x3)] := hl
  have w_14 : ∀ (n : Nat) (x1 : Int32) (x3 : Int32) (x4 : Int32) (g : St) (H : Heap) (locs : List Loc) (ls : Array Slot), V_X9_isNamed_14 L post n x1 x3 x4 g → Wd D (ty4 cI cC cZ cJ) A s (wSyN ad nm cI cC L g) H locs → lv_has ls 5 [(0, .ref (ad 0)), (1, .int x1), (2, .ref (nm)), (3, .int x3), (4, .int x4)] → W p l e RM_X9_isNamed s m args below meth c H locs 0 0 (QI below D (ty4 cI cC cZ cJ) A args s (fun u : St => (wSyN ad nm cI cC L u)) post) (F0 m 14 ls []) := by
    intro n
    induction n with
    | zero =>
      intro x1 x3 x4 g H locs ls h
      exact False.elim h
    | succ n ih =>
      intro x1 x3 x4 g H locs ls h hw hl
      rw [V_X9_isNamed_14] at h
      refine lv_iload hx hb dX9_isNamed_14 (lv_at hl 4 rfl) ?_
      refine lv_iload_n hx hb dX9_isNamed_16 rfl (lv_at hl 3 rfl) ?_
      refine lv_icmp_ge (tgt := 49) hx hb dX9_isNamed_17 (by decide) (fun c_1 => ?_) (fun c_1 => ?_)
      · have h := h.1 c_1
        refine lv_iconst (v := (1 : Int32)) hx hb dX9_isNamed_49 (by decide) ?_
        exact rtI (wf := (fun u : St => (wSyN ad nm cI cC L u))) g hC hr hlk hw (by decide) h dX9_isNamed_50
      · have h := h.2 c_1
        refine lv_iload hx hb dX9_isNamed_20 (lv_at hl 4 rfl) ?_
        refine lv_aload_n hx hb dX9_isNamed_22 rfl (lv_at hl 2 rfl) ?_
        refine aln 5 1 (v := (Int32.ofNat L)) hC hw rfl rfl rfl dX9_isNamed_23 ?_
        refine lv_icmp_ge (tgt := 49) hx hb dX9_isNamed_24 (by decide) (fun c_2 => ?_) (fun c_2 => ?_)
        · have h := h.1 c_2
          refine lv_iconst (v := (1 : Int32)) hx hb dX9_isNamed_49 (by decide) ?_
          exact rtI (wf := (fun u : St => (wSyN ad nm cI cC L u))) g hC hr hlk hw (by decide) h dX9_isNamed_50
        · have h := h.2 c_2
          refine lv_aload_n hx hb dX9_isNamed_27 rfl (lv_at hl 0 rfl) ?_
          refine lv_iload_n hx hb dX9_isNamed_28 rfl (lv_at hl 1 rfl) ?_
          refine lv_iload hx hb dX9_isNamed_29 (lv_at hl 4 rfl) ?_
          refine eI_wSyN_wSy_0 kmX9_65 hC hw (m_X9_letter l D cI cC cZ cJ ad x1 x4 g h) rfl rfl ⟨by decide, by decide⟩ rfl hl.1 (Nat.le_of_ble_eq_true rfl) dX9_isNamed_31 ⟨Nat.zero_le _, Nat.zero_le _⟩ rfl ?_
          intro r_3 u_5 g_4 H locs eg_4 h hw
          have h := h g_4 eg_4
          refine lv_aload_n hx hb dX9_isNamed_34 rfl (lv_at hl 2 rfl) ?_
          refine lv_iload hx hb dX9_isNamed_35 (lv_at hl 4 rfl) ?_
          refine ldC 5 1 hC hw rfl rfl h.1 dX9_isNamed_37 ?_
          have h := h.2
          refine lv_icmp_eq (tgt := 43) hx hb dX9_isNamed_38 (by decide) (fun c_6 => ?_) (fun c_6 => ?_)
          · have h := h.1 c_6
            obtain ⟨x_7, ex_7⟩ : ∃ y : Int32, y = x4 + (1 : Int32) := ⟨_, rfl⟩
            have h := h x_7 ex_7
            refine lv_iinc (v := x_7) (lv' := [(4, .int x_7), (0, .ref (ad 0)), (1, .int x1), (2, .ref (nm)), (3, .int x3)]) hx hb dX9_isNamed_43 hl (k := 4) rfl (by rw [ex_7]; rfl) (by decide) rfl (fun ls hl => ?_)
            refine lv_goto (tgt := 14) hx hb dX9_isNamed_46 (by decide) ?_
            exact ih x1 x3 x_7 g_4 _ _ _ h hw (lv_sub hl [1, 2, 3, 4, 0] rfl)
          · have h := h.2 c_6
            refine lv_iconst (v := (0 : Int32)) hx hb dX9_isNamed_41 (by decide) ?_
            exact rtI (wf := (fun u : St => (wSyN ad nm cI cC L u))) g_4 hC hr hlk hw (by decide) h dX9_isNamed_42
  unfold V_X9_isNamed at h
  refine lv_aload_n hx hb dX9_isNamed_0 rfl (lv_at hl 0 rfl) ?_
  refine lv_iload_n hx hb dX9_isNamed_1 rfl (lv_at hl 1 rfl) ?_
  refine eI_wSyN_wSy_0 kmX9_61 hC hw (m_X9_length l D cI cC cZ cJ ad x1 g h) rfl rfl ⟨by decide, by decide⟩ rfl hl.1 (Nat.le_of_ble_eq_true rfl) dX9_isNamed_2 ⟨Nat.zero_le _, Nat.zero_le _⟩ rfl ?_
  intro r_8 u_10 g_9 H locs eg_9 h hw
  have h := h g_9 eg_9
  refine lv_iload_n hx hb dX9_isNamed_5 rfl (lv_at hl 3 rfl) ?_
  refine lv_icmp_eq (tgt := 11) hx hb dX9_isNamed_6 (by decide) (fun c_11 => ?_) (fun c_11 => ?_)
  · have h := h.1 c_11
    refine lv_iconst (v := (0 : Int32)) hx hb dX9_isNamed_11 (by decide) ?_
    refine lv_topi (fun x_12 ex_12 => ?_)
    have h := h x_12 ex_12
    refine lv_istore (lv' := [(4, .int x_12), (0, .ref (ad 0)), (1, .int x1), (2, .ref (nm)), (3, .int x3)]) hx hb dX9_isNamed_12 hl (by decide) rfl (fun ls hl => ?_)
    exact w_14 n x1 x3 x_12 g_9 _ _ _ h hw (lv_sub hl [1, 2, 3, 4, 0] rfl)
  · have h := h.2 c_11
    refine lv_iconst (v := (0 : Int32)) hx hb dX9_isNamed_9 (by decide) ?_
    exact rtI (wf := (fun u : St => (wSyN ad nm cI cC L u))) g_9 hC hr hlk hw (by decide) h dX9_isNamed_10
def V_X9_add_59 (L : Nat) (post : Int32 → St → Prop) (n : Nat) (x2 : Int32) (g : St) : Prop := (vp_in (g 0 0) 40 ∧ ∀ g_1 : St, g_1 = up g 2 (g 0 0).toNatClampNeg x2 → V_X3_indexOf L n x2 (g_1 5) (fun r_2 => (vp_in (g_1 0 0) 40 ∧ ∀ g_4 : St, g_4 = up g_1 3 (g_1 0 0).toNatClampNeg r_2 → ∀ g_5 : St, g_5 = us g_4 0 ((g_4 0 0) + (1 : Int32)) → post ((g_5 0 0) - (1 : Int32)) g_5)))
def V_X9_add_21 (L : Nat) (post : Int32 → St → Prop) : Nat → Int32 → Int32 → Int32 → St → Prop
  | 0, _, _, _, _ => False
  | n + 1, x2, x3, x4, g => ((x2 ≤ x4 → V_X9_add_59 L post n x2 g) ∧ (¬ x2 ≤ x4 → (((5 : Int32) ≤ x4 → V_X9_add_59 L post n x2 g) ∧ (¬ (5 : Int32) ≤ x4 → (((Int32.ofNat L) ≤ x4 → V_X9_add_59 L post n x2 g) ∧ (¬ (Int32.ofNat L) ≤ x4 → (vp_in x4 L ∧ (vp_in (x3 + x4) 200 ∧ ∀ g_9 : St, g_9 = up g 1 (x3 + x4).toNatClampNeg (vp_nar .char (g 5 x4.toNatClampNeg)) → ∀ x_10 : Int32, x_10 = x4 + (1 : Int32) → V_X9_add_21 L post n x2 x3 x_10 g_9))))))))
def V_X9_add (L : Nat) (n : Nat) (x2 : Int32) (g : St) (post : Int32 → St → Prop) : Prop := (((g 0 0) < (40 : Int32) → ∀ x_12 : Int32, x_12 = ((g 0 0) * (5 : Int32)) → ∀ x_13 : Int32, x_13 = (0 : Int32) → V_X9_add_21 L post n x2 x_12 x_13 g) ∧ (¬ (g 0 0) < (40 : Int32) → post (-1 : Int32) g))
abbrev RM_X9_add : Room := { frames := 6, cells := 0, slots := 0, locals := 130 }
set_option maxHeartbeats 4000000 in
set_option maxRecDepth 100000 in
theorem m_X9_add (l : Launch) (D : va_G) (cI cC cZ cJ : ClassId) (ad : Nat → Nat) (nm : Nat) (L : Nat) (ea : Nat → Nat → Nat) (n : Nat) (x2 : Int32) (g : St) {post : Int32 → St → Prop} (h : V_X9_add L n x2 g post) : MetIE ea l yX9_add cX9_add 5 .int RM_X9_add D (ty4 cI cC cZ cJ) (wSyN ad nm cI cC L g) [.ref (ad 0), .ref (nm), .int x2] (fun u : St => (wSyN ad nm cI cC L u)) post := by
  refine mkIE (by decide) (Nat.le_of_ble_eq_true rfl) ?_
  intro p e s m args below meth c A ls hC hr hlk hw hE hl
  have hx := hC.1
  have hb := hC.2.1
  have hl : lv_has ls 5 [(0, .ref (ad 0)), (1, .ref (nm)), (2, .int x2)] := hl
  have w_59 : ∀ (n : Nat) (x2 : Int32) (g : St) (H : Heap) (locs : List Loc) (ls : Array Slot), V_X9_add_59 L post n x2 g → Wd D (ty4 cI cC cZ cJ) A s (wSyN ad nm cI cC L g) H locs → lv_has ls 5 [(0, .ref (ad 0)), (1, .ref (nm)), (2, .int x2)] → W p l e RM_X9_add s m args below meth c H locs 0 0 (QI below D (ty4 cI cC cZ cJ) A args s (fun u : St => (wSyN ad nm cI cC L u)) post) (F0 m 59 ls []) := by
    intro n x2 g H locs ls h hw hl
    unfold V_X9_add_59 at h
    refine lv_aload_n hx hb dX9_add_59 rfl (lv_at hl 0 rfl) ?_
    refine gt (v := .ref (ad 2)) kfX9_13 0 hC hw rfl rfl dX9_add_60 ?_
    refine lv_aload_n hx hb dX9_add_63 rfl (lv_at hl 0 rfl) ?_
    refine gt (v := .int (g 0 0)) kfX9_49 0 hC hw rfl rfl dX9_add_64 ?_
    refine lv_iload_n hx hb dX9_add_67 rfl (lv_at hl 2 rfl) ?_
    refine swSyN_2 h.1 hC hw dX9_add_68 (fun H locs g_1 eg_1 hw => ?_)
    have h := h.2 g_1 eg_1
    refine lv_aload_n hx hb dX9_add_69 rfl (lv_at hl 0 rfl) ?_
    refine gt (v := .ref (ad 3)) kfX9_17 0 hC hw rfl rfl dX9_add_70 ?_
    refine lv_aload_n hx hb dX9_add_73 rfl (lv_at hl 0 rfl) ?_
    refine gt (v := .int (g_1 0 0)) kfX9_49 0 hC hw rfl rfl dX9_add_74 ?_
    refine lv_aload_n hx hb dX9_add_77 rfl (lv_at hl 1 rfl) ?_
    refine lv_iload_n hx hb dX9_add_78 rfl (lv_at hl 2 rfl) ?_
    refine eI_wSyN_wNm_5 ksX9_69 hC hw hE (m_X3_indexOf l D cI cC cZ cJ nm L ea n x2 (g_1 5) h) rfl rfl ⟨by decide, by decide⟩ rfl hl.1 (Nat.le_of_ble_eq_true rfl) dX9_add_79 ⟨Nat.zero_le _, Nat.zero_le _⟩ rfl ?_
    intro r_2 H locs h hw
    refine swSyN_3 h.1 hC hw dX9_add_82 (fun H locs g_4 eg_4 hw => ?_)
    have h := h.2 g_4 eg_4
    refine lv_aload_n hx hb dX9_add_83 rfl (lv_at hl 0 rfl) ?_
    refine lv_dup hx hb dX9_add_84 rfl ?_
    refine gt (v := .int (g_4 0 0)) kfX9_49 0 hC hw rfl rfl dX9_add_85 ?_
    refine lv_iconst (v := (1 : Int32)) hx hb dX9_add_88 (by decide) ?_
    refine lv_iadd hx hb dX9_add_89 ?_
    refine pwSyN_0_4 kpX9_49 hC hw dX9_add_90 (fun H locs g_5 eg_5 hw => ?_)
    have h := h g_5 eg_5
    refine lv_aload_n hx hb dX9_add_93 rfl (lv_at hl 0 rfl) ?_
    refine gt (v := .int (g_5 0 0)) kfX9_49 0 hC hw rfl rfl dX9_add_94 ?_
    refine lv_iconst (v := (1 : Int32)) hx hb dX9_add_97 (by decide) ?_
    refine lv_isub hx hb dX9_add_98 ?_
    exact rtI (wf := (fun u : St => (wSyN ad nm cI cC L u))) g_5 hC hr hlk hw rfl h dX9_add_99
  have w_21 : ∀ (n : Nat) (x2 : Int32) (x3 : Int32) (x4 : Int32) (g : St) (H : Heap) (locs : List Loc) (ls : Array Slot), V_X9_add_21 L post n x2 x3 x4 g → Wd D (ty4 cI cC cZ cJ) A s (wSyN ad nm cI cC L g) H locs → lv_has ls 5 [(0, .ref (ad 0)), (1, .ref (nm)), (2, .int x2), (3, .int x3), (4, .int x4)] → W p l e RM_X9_add s m args below meth c H locs 0 0 (QI below D (ty4 cI cC cZ cJ) A args s (fun u : St => (wSyN ad nm cI cC L u)) post) (F0 m 21 ls []) := by
    intro n
    induction n with
    | zero =>
      intro x2 x3 x4 g H locs ls h
      exact False.elim h
    | succ n ih =>
      intro x2 x3 x4 g H locs ls h hw hl
      rw [V_X9_add_21] at h
      refine lv_iload hx hb dX9_add_21 (lv_at hl 4 rfl) ?_
      refine lv_iload_n hx hb dX9_add_23 rfl (lv_at hl 2 rfl) ?_
      refine lv_icmp_ge (tgt := 59) hx hb dX9_add_24 (by decide) (fun c_6 => ?_) (fun c_6 => ?_)
      · have h := h.1 c_6
        exact w_59 n x2 g _ _ _ h hw (lv_sub hl [0, 1, 2] rfl)
      · have h := h.2 c_6
        refine lv_iload hx hb dX9_add_27 (lv_at hl 4 rfl) ?_
        refine lv_iconst (v := (5 : Int32)) hx hb dX9_add_29 (by decide) ?_
        refine lv_icmp_ge (tgt := 59) hx hb dX9_add_30 (by decide) (fun c_7 => ?_) (fun c_7 => ?_)
        · have h := h.1 c_7
          exact w_59 n x2 g _ _ _ h hw (lv_sub hl [0, 1, 2] rfl)
        · have h := h.2 c_7
          refine lv_iload hx hb dX9_add_33 (lv_at hl 4 rfl) ?_
          refine lv_aload_n hx hb dX9_add_35 rfl (lv_at hl 1 rfl) ?_
          refine aln 5 1 (v := (Int32.ofNat L)) hC hw rfl rfl rfl dX9_add_36 ?_
          refine lv_icmp_ge (tgt := 59) hx hb dX9_add_37 (by decide) (fun c_8 => ?_) (fun c_8 => ?_)
          · have h := h.1 c_8
            exact w_59 n x2 g _ _ _ h hw (lv_sub hl [0, 1, 2] rfl)
          · have h := h.2 c_8
            refine lv_aload_n hx hb dX9_add_40 rfl (lv_at hl 0 rfl) ?_
            refine gt (v := .ref (ad 1)) kfX9_9 0 hC hw rfl rfl dX9_add_41 ?_
            refine lv_iload_n hx hb dX9_add_44 rfl (lv_at hl 3 rfl) ?_
            refine lv_iload hx hb dX9_add_45 (lv_at hl 4 rfl) ?_
            refine lv_iadd hx hb dX9_add_47 ?_
            refine lv_aload_n hx hb dX9_add_48 rfl (lv_at hl 1 rfl) ?_
            refine lv_iload hx hb dX9_add_49 (lv_at hl 4 rfl) ?_
            refine ldC 5 1 hC hw rfl rfl h.1 dX9_add_51 ?_
            have h := h.2
            refine swSyN_1 h.1 hC hw dX9_add_52 (fun H locs g_9 eg_9 hw => ?_)
            have h := h.2 g_9 eg_9
            obtain ⟨x_10, ex_10⟩ : ∃ y : Int32, y = x4 + (1 : Int32) := ⟨_, rfl⟩
            have h := h x_10 ex_10
            refine lv_iinc (v := x_10) (lv' := [(4, .int x_10), (0, .ref (ad 0)), (1, .ref (nm)), (2, .int x2), (3, .int x3)]) hx hb dX9_add_53 hl (k := 4) rfl (by rw [ex_10]; rfl) (by decide) rfl (fun ls hl => ?_)
            refine lv_goto (tgt := 21) hx hb dX9_add_56 (by decide) ?_
            exact ih x2 x3 x_10 g_9 _ _ _ h hw (lv_sub hl [1, 2, 3, 4, 0] rfl)
  unfold V_X9_add at h
  refine lv_aload_n hx hb dX9_add_0 rfl (lv_at hl 0 rfl) ?_
  refine gt (v := .int (g 0 0)) kfX9_49 0 hC hw rfl rfl dX9_add_1 ?_
  refine lv_bipush (v := (40 : Int32)) hx hb dX9_add_4 (by decide) ?_
  refine lv_icmp_lt (tgt := 11) hx hb dX9_add_6 (by decide) (fun c_11 => ?_) (fun c_11 => ?_)
  · have h := h.1 c_11
    refine lv_aload_n hx hb dX9_add_11 rfl (lv_at hl 0 rfl) ?_
    refine gt (v := .int (g 0 0)) kfX9_49 0 hC hw rfl rfl dX9_add_12 ?_
    refine lv_iconst (v := (5 : Int32)) hx hb dX9_add_15 (by decide) ?_
    refine lv_imul hx hb dX9_add_16 ?_
    refine lv_topi (fun x_12 ex_12 => ?_)
    have h := h x_12 ex_12
    refine lv_istore_n (lv' := [(3, .int x_12), (0, .ref (ad 0)), (1, .ref (nm)), (2, .int x2)]) hx hb dX9_add_17 rfl hl (by decide) rfl (fun ls hl => ?_)
    refine lv_iconst (v := (0 : Int32)) hx hb dX9_add_18 (by decide) ?_
    refine lv_topi (fun x_13 ex_13 => ?_)
    have h := h x_13 ex_13
    refine lv_istore (lv' := [(4, .int x_13), (3, .int x_12), (0, .ref (ad 0)), (1, .ref (nm)), (2, .int x2)]) hx hb dX9_add_19 hl (by decide) rfl (fun ls hl => ?_)
    exact w_21 n x2 x_12 x_13 g _ _ _ h hw (lv_sub hl [2, 3, 4, 1, 0] rfl)
  · have h := h.2 c_11
    refine lv_iconst (v := (-1 : Int32)) hx hb dX9_add_9 (by decide) ?_
    exact rtI (wf := (fun u : St => (wSyN ad nm cI cC L u))) g hC hr hlk hw rfl h dX9_add_10
def V_X9_numbered_15 (L : Nat) (post : Int32 → St → Prop) : Nat → Int32 → Int32 → St → Prop
  | 0, _, _, _ => False
  | n + 1, x2, x3, g => (((g 0 0) ≤ x3 → V_X9_add L n x2 g (fun r_2 g_3 => post r_2 g_3)) ∧ (¬ (g 0 0) ≤ x3 → V_X9_isNamed L n x3 x2 g (fun r_4 g_5 => ((r_4 = 0 → ∀ x_7 : Int32, x_7 = x3 + (1 : Int32) → V_X9_numbered_15 L post n x2 x_7 g_5) ∧ (¬ r_4 = 0 → post x3 g_5)))))
def V_X9_numbered (L : Nat) (n : Nat) (x2 : Int32) (g : St) (post : Int32 → St → Prop) : Prop := (((5 : Int32) < x2 → post (-1 : Int32) g) ∧ (¬ (5 : Int32) < x2 → ((x2 ≤ (Int32.ofNat L) → ∀ x_10 : Int32, x_10 = (0 : Int32) → V_X9_numbered_15 L post n x2 x_10 g) ∧ (¬ x2 ≤ (Int32.ofNat L) → post (-1 : Int32) g))))
abbrev RM_X9_numbered : Room := { frames := 7, cells := 0, slots := 0, locals := 154 }
set_option maxHeartbeats 4000000 in
set_option maxRecDepth 100000 in
theorem m_X9_numbered (l : Launch) (D : va_G) (cI cC cZ cJ : ClassId) (ad : Nat → Nat) (nm : Nat) (L : Nat) (ea : Nat → Nat → Nat) (n : Nat) (x2 : Int32) (g : St) {post : Int32 → St → Prop} (h : V_X9_numbered L n x2 g post) : MetIE ea l yX9_numbered cX9_numbered 4 .int RM_X9_numbered D (ty4 cI cC cZ cJ) (wSyN ad nm cI cC L g) [.ref (ad 0), .ref (nm), .int x2] (fun u : St => (wSyN ad nm cI cC L u)) post := by
  refine mkIE (by decide) (Nat.le_of_ble_eq_true rfl) ?_
  intro p e s m args below meth c A ls hC hr hlk hw hE hl
  have hx := hC.1
  have hb := hC.2.1
  have hl : lv_has ls 4 [(0, .ref (ad 0)), (1, .ref (nm)), (2, .int x2)] := hl
  have w_15 : ∀ (n : Nat) (x2 : Int32) (x3 : Int32) (g : St) (H : Heap) (locs : List Loc) (ls : Array Slot), V_X9_numbered_15 L post n x2 x3 g → Wd D (ty4 cI cC cZ cJ) A s (wSyN ad nm cI cC L g) H locs → lv_has ls 4 [(0, .ref (ad 0)), (1, .ref (nm)), (2, .int x2), (3, .int x3)] → W p l e RM_X9_numbered s m args below meth c H locs 0 0 (QI below D (ty4 cI cC cZ cJ) A args s (fun u : St => (wSyN ad nm cI cC L u)) post) (F0 m 15 ls []) := by
    intro n
    induction n with
    | zero =>
      intro x2 x3 g H locs ls h
      exact False.elim h
    | succ n ih =>
      intro x2 x3 g H locs ls h hw hl
      rw [V_X9_numbered_15] at h
      refine lv_iload_n hx hb dX9_numbered_15 rfl (lv_at hl 3 rfl) ?_
      refine lv_aload_n hx hb dX9_numbered_16 rfl (lv_at hl 0 rfl) ?_
      refine gt (v := .int (g 0 0)) kfX9_49 0 hC hw rfl rfl dX9_numbered_17 ?_
      refine lv_icmp_ge (tgt := 41) hx hb dX9_numbered_20 (by decide) (fun c_1 => ?_) (fun c_1 => ?_)
      · have h := h.1 c_1
        refine lv_aload_n hx hb dX9_numbered_41 rfl (lv_at hl 0 rfl) ?_
        refine lv_aload_n hx hb dX9_numbered_42 rfl (lv_at hl 1 rfl) ?_
        refine lv_iload_n hx hb dX9_numbered_43 rfl (lv_at hl 2 rfl) ?_
        refine cVIwe kmX9_31 hC hw hE (m_X9_add l D cI cC cZ cJ ad nm L ea n x2 g h) rfl rfl ⟨by decide, by decide⟩ (recvW hw rfl 0 rfl) rfl hl.1 (Nat.le_of_ble_eq_true rfl) dX9_numbered_44 ⟨Nat.zero_le _, Nat.zero_le _⟩ rfl ?_
        intro r_2 g_3 H locs h hw
        exact rtI (wf := (fun u : St => (wSyN ad nm cI cC L u))) g_3 hC hr hlk hw rfl h dX9_numbered_47
      · have h := h.2 c_1
        refine lv_aload_n hx hb dX9_numbered_23 rfl (lv_at hl 0 rfl) ?_
        refine lv_iload_n hx hb dX9_numbered_24 rfl (lv_at hl 3 rfl) ?_
        refine lv_aload_n hx hb dX9_numbered_25 rfl (lv_at hl 1 rfl) ?_
        refine lv_iload_n hx hb dX9_numbered_26 rfl (lv_at hl 2 rfl) ?_
        refine cVIwe kmX9_57 hC hw hE (m_X9_isNamed l D cI cC cZ cJ ad nm L ea n x3 x2 g h) rfl rfl ⟨by decide, by decide⟩ (recvW hw rfl 0 rfl) rfl hl.1 (Nat.le_of_ble_eq_true rfl) dX9_numbered_27 ⟨Nat.zero_le _, Nat.zero_le _⟩ rfl ?_
        intro r_4 g_5 H locs h hw
        refine lv_if_eq (tgt := 35) hx hb dX9_numbered_30 (by decide) (fun c_6 => ?_) (fun c_6 => ?_)
        · have h := h.1 c_6
          obtain ⟨x_7, ex_7⟩ : ∃ y : Int32, y = x3 + (1 : Int32) := ⟨_, rfl⟩
          have h := h x_7 ex_7
          refine lv_iinc (v := x_7) (lv' := [(3, .int x_7), (0, .ref (ad 0)), (1, .ref (nm)), (2, .int x2)]) hx hb dX9_numbered_35 hl (k := 3) rfl (by rw [ex_7]; rfl) (by decide) rfl (fun ls hl => ?_)
          refine lv_goto (tgt := 15) hx hb dX9_numbered_38 (by decide) ?_
          exact ih x2 x_7 g_5 _ _ _ h hw (lv_sub hl [1, 2, 3, 0] rfl)
        · have h := h.2 c_6
          refine lv_iload_n hx hb dX9_numbered_33 rfl (lv_at hl 3 rfl) ?_
          exact rtI (wf := (fun u : St => (wSyN ad nm cI cC L u))) g_5 hC hr hlk hw rfl h dX9_numbered_34
  unfold V_X9_numbered at h
  refine lv_iload_n hx hb dX9_numbered_0 rfl (lv_at hl 2 rfl) ?_
  refine lv_iconst (v := (5 : Int32)) hx hb dX9_numbered_1 (by decide) ?_
  refine lv_icmp_gt (tgt := 11) hx hb dX9_numbered_2 (by decide) (fun c_8 => ?_) (fun c_8 => ?_)
  · have h := h.1 c_8
    refine lv_iconst (v := (-1 : Int32)) hx hb dX9_numbered_11 (by decide) ?_
    exact rtI (wf := (fun u : St => (wSyN ad nm cI cC L u))) g hC hr hlk hw rfl h dX9_numbered_12
  · have h := h.2 c_8
    refine lv_iload_n hx hb dX9_numbered_5 rfl (lv_at hl 2 rfl) ?_
    refine lv_aload_n hx hb dX9_numbered_6 rfl (lv_at hl 1 rfl) ?_
    refine aln 5 1 (v := (Int32.ofNat L)) hC hw rfl rfl rfl dX9_numbered_7 ?_
    refine lv_icmp_le (tgt := 13) hx hb dX9_numbered_8 (by decide) (fun c_9 => ?_) (fun c_9 => ?_)
    · have h := h.1 c_9
      refine lv_iconst (v := (0 : Int32)) hx hb dX9_numbered_13 (by decide) ?_
      refine lv_topi (fun x_10 ex_10 => ?_)
      have h := h x_10 ex_10
      refine lv_istore_n (lv' := [(3, .int x_10), (0, .ref (ad 0)), (1, .ref (nm)), (2, .int x2)]) hx hb dX9_numbered_14 rfl hl (by decide) rfl (fun ls hl => ?_)
      exact w_15 n x2 x_10 g _ _ _ h hw (lv_sub hl [1, 2, 3, 0] rfl)
    · have h := h.2 c_9
      refine lv_iconst (v := (-1 : Int32)) hx hb dX9_numbered_11 (by decide) ?_
      exact rtI (wf := (fun u : St => (wSyN ad nm cI cC L u))) g hC hr hlk hw rfl h dX9_numbered_12
