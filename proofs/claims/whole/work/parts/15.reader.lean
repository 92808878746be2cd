def V_X6_addLetter (N : Nat) (x1 : Int32) (G : SG) (post : SG → Prop) : Prop := (((G 3 0 1) ≤ 0 → post G) ∧ (¬ (G 3 0 1) ≤ 0 → (((512 : Int32) ≤ (G 3 0 0) → post G) ∧ (¬ (512 : Int32) ≤ (G 3 0 0) → (vp_in (G 3 0 0) 512 ∧ ∀ g_3 : SG, g_3 = uo G 3 (up (G 3) 1 (G 3 0 0).toNatClampNeg (vp_nar .char (((x1).toUInt32 % 65536).toInt32))) → ∀ g_4 : SG, g_4 = uo g_3 3 (us (g_3 3) 0 ((g_3 3 0 0) + (1 : Int32))) → post g_4)))))
abbrev RM_X6_addLetter : Room := { frames := 0, cells := 0, slots := 0, locals := 0 }
set_option maxHeartbeats 4000000 in
set_option maxRecDepth 100000 in
theorem m_X6_addLetter (l : Launch) (D : va_G) (cI cC cZ cJ : ClassId) (ad : Nat → Nat) (N : Nat) (ea : Nat → Nat → Nat) (x1 : Int32) (G : SG) {post : SG → Prop} (h : V_X6_addLetter N x1 G post) : MetVE ea l yX6_addLetter cX6_addLetter 2 RM_X6_addLetter D (ty4 cI cC cZ cJ) (wT ad cI cC cZ cJ N G) [.ref (ad 8), .int x1] (fun u : SG => (wT ad cI cC cZ cJ N u)) post := by
  refine mkVE (by decide) (Nat.le_of_ble_eq_true rfl) ?_
  intro p e s m args below meth c A ls hC hr hlk hw hE hl
  have hx := hC.1
  have hb := hC.2.1
  have hl : lv_has ls 2 [(0, .ref (ad 8)), (1, .int x1)] := hl
  unfold V_X6_addLetter at h
  refine lv_aload_n hx hb dX6_addLetter_0 rfl (lv_at hl 0 rfl) ?_
  refine gt (v := .int (G 3 0 1)) kfX6_63 8 hC hw rfl rfl dX6_addLetter_1 ?_
  refine lv_if_le (tgt := 40) hx hb dX6_addLetter_4 (by decide) (fun c_1 => ?_) (fun c_1 => ?_)
  · have h := h.1 c_1
    exact rtV (wf := (fun u : SG => (wT ad cI cC cZ cJ N u))) G hC hr hlk hw h dX6_addLetter_40
  · have h := h.2 c_1
    refine lv_aload_n hx hb dX6_addLetter_7 rfl (lv_at hl 0 rfl) ?_
    refine gt (v := .int (G 3 0 0)) kfX6_69 8 hC hw rfl rfl dX6_addLetter_8 ?_
    refine lv_aload_n hx hb dX6_addLetter_11 rfl (lv_at hl 0 rfl) ?_
    refine gt (v := .ref (ad 9)) kfX6_9 8 hC hw rfl rfl dX6_addLetter_12 ?_
    refine aln 9 1 (v := (512 : Int32)) hC hw rfl rfl (show Int32.ofNat 512 = (512 : Int32) by decide) dX6_addLetter_15 ?_
    refine lv_icmp_ge (tgt := 40) hx hb dX6_addLetter_16 (by decide) (fun c_2 => ?_) (fun c_2 => ?_)
    · have h := h.1 c_2
      exact rtV (wf := (fun u : SG => (wT ad cI cC cZ cJ N u))) G hC hr hlk hw h dX6_addLetter_40
    · have h := h.2 c_2
      refine lv_aload_n hx hb dX6_addLetter_19 rfl (lv_at hl 0 rfl) ?_
      refine gt (v := .ref (ad 9)) kfX6_9 8 hC hw rfl rfl dX6_addLetter_20 ?_
      refine lv_aload_n hx hb dX6_addLetter_23 rfl (lv_at hl 0 rfl) ?_
      refine gt (v := .int (G 3 0 0)) kfX6_69 8 hC hw rfl rfl dX6_addLetter_24 ?_
      refine lv_iload_n hx hb dX6_addLetter_27 rfl (lv_at hl 1 rfl) ?_
      refine lv_i2c hx hb dX6_addLetter_28 rfl ?_
      refine swT_9 h.1 hC hw dX6_addLetter_29 (fun H locs g_3 eg_3 hw => ?_)
      have h := h.2 g_3 eg_3
      refine lv_aload_n hx hb dX6_addLetter_30 rfl (lv_at hl 0 rfl) ?_
      refine lv_dup hx hb dX6_addLetter_31 rfl ?_
      refine gt (v := .int (g_3 3 0 0)) kfX6_69 8 hC hw rfl rfl dX6_addLetter_32 ?_
      refine lv_iconst (v := (1 : Int32)) hx hb dX6_addLetter_35 (by decide) ?_
      refine lv_iadd hx hb dX6_addLetter_36 ?_
      refine pwT_8_3 kpX6_69 hC hw dX6_addLetter_37 (fun H locs g_4 eg_4 hw => ?_)
      have h := h g_4 eg_4
      exact rtV (wf := (fun u : SG => (wT ad cI cC cZ cJ N u))) g_4 hC hr hlk hw h dX6_addLetter_40
def V_X6_firstDigit (N : Nat) (G : SG) (post : Int32 → SG → Prop) : Prop := (vp_in (0 : Int32) 512 ∧ ((¬ (G 3 1 (0 : Int32).toNatClampNeg) = (45 : Int32) → post (0 : Int32) G) ∧ ((G 3 1 (0 : Int32).toNatClampNeg) = (45 : Int32) → post (1 : Int32) G)))
abbrev RM_X6_firstDigit : Room := { frames := 0, cells := 0, slots := 0, locals := 0 }
set_option maxHeartbeats 4000000 in
set_option maxRecDepth 100000 in
theorem m_X6_firstDigit (l : Launch) (D : va_G) (cI cC cZ cJ : ClassId) (ad : Nat → Nat) (N : Nat) (ea : Nat → Nat → Nat) (G : SG) {post : Int32 → SG → Prop} (h : V_X6_firstDigit N G post) : MetIE ea l yX6_firstDigit cX6_firstDigit 1 .int RM_X6_firstDigit D (ty4 cI cC cZ cJ) (wT ad cI cC cZ cJ N G) [.ref (ad 8)] (fun u : SG => (wT ad cI cC cZ cJ N u)) post := by
  refine mkIE (by decide) (Nat.le_of_ble_eq_true rfl) ?_
  intro p e s m args below meth c A ls hC hr hlk hw hE hl
  have hx := hC.1
  have hb := hC.2.1
  have hl : lv_has ls 1 [(0, .ref (ad 8))] := hl
  unfold V_X6_firstDigit at h
  refine lv_aload_n hx hb dX6_firstDigit_0 rfl (lv_at hl 0 rfl) ?_
  refine gt (v := .ref (ad 9)) kfX6_9 8 hC hw rfl rfl dX6_firstDigit_1 ?_
  refine lv_iconst (v := (0 : Int32)) hx hb dX6_firstDigit_4 (by decide) ?_
  refine ldC 9 1 hC hw rfl rfl h.1 dX6_firstDigit_5 ?_
  have h := h.2
  refine lv_bipush (v := (45 : Int32)) hx hb dX6_firstDigit_6 (by decide) ?_
  refine lv_icmp_ne (tgt := 15) hx hb dX6_firstDigit_8 (by decide) (fun c_1 => ?_) (fun c_1 => ?_)
  · have h := h.1 c_1
    refine lv_iconst (v := (0 : Int32)) hx hb dX6_firstDigit_15 (by decide) ?_
    exact rtI (wf := (fun u : SG => (wT ad cI cC cZ cJ N u))) G hC hr hlk hw rfl h dX6_firstDigit_16
  · have h := h.2 c_1
    refine lv_iconst (v := (1 : Int32)) hx hb dX6_firstDigit_11 (by decide) ?_
    refine lv_goto (tgt := 16) hx hb dX6_firstDigit_12 (by decide) ?_
    exact rtI (wf := (fun u : SG => (wT ad cI cC cZ cJ N u))) G hC hr hlk hw rfl h dX6_firstDigit_16
def V_X6_isNumber_7 (N : Nat) (post : Int32 → SG → Prop) : Nat → Int32 → Int32 → SG → Prop
  | 0, _, _, _ => False
  | n + 1, x1, x2, G => (((G 3 0 0) ≤ x2 → (((G 3 0 0) ≤ x1 → post (0 : Int32) G) ∧ (¬ (G 3 0 0) ≤ x1 → post (1 : Int32) G))) ∧ (¬ (G 3 0 0) ≤ x2 → (((512 : Int32) ≤ x2 → (((G 3 0 0) ≤ x1 → post (0 : Int32) G) ∧ (¬ (G 3 0 0) ≤ x1 → post (1 : Int32) G))) ∧ (¬ (512 : Int32) ≤ x2 → (vp_in x2 512 ∧ V_X6_isDigit (G 3 1 x2.toNatClampNeg) (fun r_5 => ((¬ r_5 = 0 → ∀ x_7 : Int32, x_7 = x2 + (1 : Int32) → V_X6_isNumber_7 N post n x1 x_7 G) ∧ (r_5 = 0 → post (0 : Int32) G))))))))
def V_X6_isNumber (N : Nat) (n : Nat) (G : SG) (post : Int32 → SG → Prop) : Prop := V_X6_firstDigit N  G (fun r_8 g_9 => V_X6_isNumber_7 N post n r_8 r_8 g_9)
abbrev RM_X6_isNumber : Room := { frames := 1, cells := 0, slots := 0, locals := 20 }
set_option maxHeartbeats 4000000 in
set_option maxRecDepth 100000 in
theorem m_X6_isNumber (l : Launch) (D : va_G) (cI cC cZ cJ : ClassId) (ad : Nat → Nat) (N : Nat) (ea : Nat → Nat → Nat) (n : Nat) (G : SG) {post : Int32 → SG → Prop} (h : V_X6_isNumber N n G post) : MetIE ea l yX6_isNumber cX6_isNumber 3 .boolean RM_X6_isNumber D (ty4 cI cC cZ cJ) (wT ad cI cC cZ cJ N G) [.ref (ad 8)] (fun u : SG => (wT ad cI cC cZ cJ N u)) post := by
  refine mkIE (by decide) (Nat.le_of_ble_eq_true rfl) ?_
  intro p e s m args below meth c A ls hC hr hlk hw hE hl
  have hx := hC.1
  have hb := hC.2.1
  have hl : lv_has ls 3 [(0, .ref (ad 8))] := hl
  have w_7 : ∀ (n : Nat) (x1 : Int32) (x2 : Int32) (G : SG) (H : Heap) (locs : List Loc) (ls : Array Slot), V_X6_isNumber_7 N post n x1 x2 G → Wd D (ty4 cI cC cZ cJ) A s (wT ad cI cC cZ cJ N G) H locs → lv_has ls 3 [(0, .ref (ad 8)), (1, .int x1), (2, .int x2)] → W p l e RM_X6_isNumber s m args below meth c H locs 0 0 (QI below D (ty4 cI cC cZ cJ) A args s (fun u : SG => (wT ad cI cC cZ cJ N u)) post) (F0 m 7 ls []) := by
    intro n
    induction n with
    | zero =>
      intro x1 x2 G H locs ls h
      exact False.elim h
    | succ n ih =>
      intro x1 x2 G H locs ls h hw hl
      rw [V_X6_isNumber_7] at h
      refine lv_iload_n hx hb dX6_isNumber_7 rfl (lv_at hl 2 rfl) ?_
      refine lv_aload_n hx hb dX6_isNumber_8 rfl (lv_at hl 0 rfl) ?_
      refine gt (v := .int (G 3 0 0)) kfX6_69 8 hC hw rfl rfl dX6_isNumber_9 ?_
      refine lv_icmp_ge (tgt := 44) hx hb dX6_isNumber_12 (by decide) (fun c_1 => ?_) (fun c_1 => ?_)
      · have h := h.1 c_1
        refine lv_aload_n hx hb dX6_isNumber_44 rfl (lv_at hl 0 rfl) ?_
        refine gt (v := .int (G 3 0 0)) kfX6_69 8 hC hw rfl rfl dX6_isNumber_45 ?_
        refine lv_iload_n hx hb dX6_isNumber_48 rfl (lv_at hl 1 rfl) ?_
        refine lv_icmp_le (tgt := 56) hx hb dX6_isNumber_49 (by decide) (fun c_2 => ?_) (fun c_2 => ?_)
        · have h := h.1 c_2
          refine lv_iconst (v := (0 : Int32)) hx hb dX6_isNumber_56 (by decide) ?_
          exact rtI (wf := (fun u : SG => (wT ad cI cC cZ cJ N u))) G hC hr hlk hw (by decide) h dX6_isNumber_57
        · have h := h.2 c_2
          refine lv_iconst (v := (1 : Int32)) hx hb dX6_isNumber_52 (by decide) ?_
          refine lv_goto (tgt := 57) hx hb dX6_isNumber_53 (by decide) ?_
          exact rtI (wf := (fun u : SG => (wT ad cI cC cZ cJ N u))) G hC hr hlk hw (by decide) h dX6_isNumber_57
      · have h := h.2 c_1
        refine lv_iload_n hx hb dX6_isNumber_15 rfl (lv_at hl 2 rfl) ?_
        refine lv_aload_n hx hb dX6_isNumber_16 rfl (lv_at hl 0 rfl) ?_
        refine gt (v := .ref (ad 9)) kfX6_9 8 hC hw rfl rfl dX6_isNumber_17 ?_
        refine aln 9 1 (v := (512 : Int32)) hC hw rfl rfl (show Int32.ofNat 512 = (512 : Int32) by decide) dX6_isNumber_20 ?_
        refine lv_icmp_ge (tgt := 44) hx hb dX6_isNumber_21 (by decide) (fun c_3 => ?_) (fun c_3 => ?_)
        · have h := h.1 c_3
          refine lv_aload_n hx hb dX6_isNumber_44 rfl (lv_at hl 0 rfl) ?_
          refine gt (v := .int (G 3 0 0)) kfX6_69 8 hC hw rfl rfl dX6_isNumber_45 ?_
          refine lv_iload_n hx hb dX6_isNumber_48 rfl (lv_at hl 1 rfl) ?_
          refine lv_icmp_le (tgt := 56) hx hb dX6_isNumber_49 (by decide) (fun c_4 => ?_) (fun c_4 => ?_)
          · have h := h.1 c_4
            refine lv_iconst (v := (0 : Int32)) hx hb dX6_isNumber_56 (by decide) ?_
            exact rtI (wf := (fun u : SG => (wT ad cI cC cZ cJ N u))) G hC hr hlk hw (by decide) h dX6_isNumber_57
          · have h := h.2 c_4
            refine lv_iconst (v := (1 : Int32)) hx hb dX6_isNumber_52 (by decide) ?_
            refine lv_goto (tgt := 57) hx hb dX6_isNumber_53 (by decide) ?_
            exact rtI (wf := (fun u : SG => (wT ad cI cC cZ cJ N u))) G hC hr hlk hw (by decide) h dX6_isNumber_57
        · have h := h.2 c_3
          refine lv_aload_n hx hb dX6_isNumber_24 rfl (lv_at hl 0 rfl) ?_
          refine gt (v := .ref (ad 9)) kfX6_9 8 hC hw rfl rfl dX6_isNumber_25 ?_
          refine lv_iload_n hx hb dX6_isNumber_28 rfl (lv_at hl 2 rfl) ?_
          refine ldC 9 1 hC hw rfl rfl h.1 dX6_isNumber_29 ?_
          have h := h.2
          refine cSI ksX6_44 hC (m_X6_isDigit l (G 3 1 x2.toNatClampNeg) h) rfl rfl ⟨by decide, by decide⟩ rfl hl.1 (Nat.le_of_ble_eq_true rfl) dX6_isNumber_30 ⟨Nat.zero_le _, Nat.zero_le _⟩ rfl ?_
          intro r_5 h
          refine lv_if_ne (tgt := 38) hx hb dX6_isNumber_33 (by decide) (fun c_6 => ?_) (fun c_6 => ?_)
          · have h := h.1 c_6
            obtain ⟨x_7, ex_7⟩ : ∃ y : Int32, y = x2 + (1 : Int32) := ⟨_, rfl⟩
            have h := h x_7 ex_7
            refine lv_iinc (v := x_7) (lv' := [(2, .int x_7), (0, .ref (ad 8)), (1, .int x1)]) hx hb dX6_isNumber_38 hl (k := 2) rfl (by rw [ex_7]; rfl) (by decide) rfl (fun ls hl => ?_)
            refine lv_goto (tgt := 7) hx hb dX6_isNumber_41 (by decide) ?_
            exact ih x1 x_7 G _ _ _ h hw (lv_sub hl [1, 2, 0] rfl)
          · have h := h.2 c_6
            refine lv_iconst (v := (0 : Int32)) hx hb dX6_isNumber_36 (by decide) ?_
            exact rtI (wf := (fun u : SG => (wT ad cI cC cZ cJ N u))) G hC hr hlk hw (by decide) h dX6_isNumber_37
  unfold V_X6_isNumber at h
  refine lv_aload_n hx hb dX6_isNumber_0 rfl (lv_at hl 0 rfl) ?_
  refine cVIwe kmX6_102 hC hw hE (m_X6_firstDigit l D cI cC cZ cJ ad N ea  G h) rfl rfl ⟨by decide, by decide⟩ (recvW hw rfl 8 rfl) rfl hl.1 (Nat.le_of_ble_eq_true rfl) dX6_isNumber_1 ⟨Nat.zero_le _, Nat.zero_le _⟩ rfl ?_
  intro r_8 g_9 H locs h hw
  refine lv_istore_n (lv' := [(1, .int r_8), (0, .ref (ad 8))]) hx hb dX6_isNumber_4 rfl hl (by decide) rfl (fun ls hl => ?_)
  refine lv_iload_n hx hb dX6_isNumber_5 rfl (lv_at hl 0 rfl) ?_
  refine lv_istore_n (lv' := [(2, .int r_8), (1, .int r_8), (0, .ref (ad 8))]) hx hb dX6_isNumber_6 rfl hl (by decide) rfl (fun ls hl => ?_)
  exact w_7 n r_8 r_8 g_9 _ _ _ h hw (lv_sub hl [2, 1, 0] rfl)
def V_X6_numberWord_9 (N : Nat) (post : Int32 → SG → Prop) : Nat → Int32 → Int32 → Int32 → SG → Prop
  | 0, _, _, _, _ => False
  | n + 1, x1, x2, x3, G => (((G 3 0 0) ≤ x3 → V_X11_isInRange x2 (fun r_2 => ((r_2 = 0 → post (0 : Int32) G) ∧ (¬ r_2 = 0 → V_X10_of (2 : Int32) x2 (fun r_4 => post r_4 G))))) ∧ (¬ (G 3 0 0) ≤ x3 → (((512 : Int32) ≤ x3 → V_X11_isInRange x2 (fun r_6 => ((r_6 = 0 → post (0 : Int32) G) ∧ (¬ r_6 = 0 → V_X10_of (2 : Int32) x2 (fun r_8 => post r_8 G))))) ∧ (¬ (512 : Int32) ≤ x3 → V_X11_isInRange x2 (fun r_9 => ((r_9 = 0 → V_X11_isInRange x2 (fun r_11 => ((r_11 = 0 → post (0 : Int32) G) ∧ (¬ r_11 = 0 → V_X10_of (2 : Int32) x2 (fun r_13 => post r_13 G))))) ∧ (¬ r_9 = 0 → (vp_in x3 512 ∧ ∀ x_14 : Int32, x_14 = ((G 3 1 x3.toNatClampNeg) - (48 : Int32)) → ((¬ x1 = (1 : Int32) → ∀ x_16 : Int32, x_16 = ((x2 * (10 : Int32)) + x_14) → ∀ x_17 : Int32, x_17 = x3 + (1 : Int32) → V_X6_numberWord_9 N post n x1 x_16 x_17 G) ∧ (x1 = (1 : Int32) → ∀ x_18 : Int32, x_18 = ((x2 * (10 : Int32)) + (-x_14)) → ∀ x_19 : Int32, x_19 = x3 + (1 : Int32) → V_X6_numberWord_9 N post n x1 x_18 x_19 G))))))))))
def V_X6_numberWord (N : Nat) (n : Nat) (G : SG) (post : Int32 → SG → Prop) : Prop := V_X6_firstDigit N  G (fun r_20 g_21 => ∀ x_22 : Int32, x_22 = (0 : Int32) → V_X6_numberWord_9 N post n r_20 x_22 r_20 g_21)
abbrev RM_X6_numberWord : Room := { frames := 1, cells := 0, slots := 0, locals := 21 }
set_option maxHeartbeats 4000000 in
set_option maxRecDepth 100000 in
theorem m_X6_numberWord (l : Launch) (D : va_G) (cI cC cZ cJ : ClassId) (ad : Nat → Nat) (N : Nat) (ea : Nat → Nat → Nat) (n : Nat) (G : SG) {post : Int32 → SG → Prop} (h : V_X6_numberWord N n G post) : MetIE ea l yX6_numberWord cX6_numberWord 5 .int RM_X6_numberWord D (ty4 cI cC cZ cJ) (wT ad cI cC cZ cJ N G) [.ref (ad 8)] (fun u : SG => (wT ad cI cC cZ cJ N u)) post := by
  refine mkIE (by decide) (Nat.le_of_ble_eq_true rfl) ?_
  intro p e s m args below meth c A ls hC hr hlk hw hE hl
  have hx := hC.1
  have hb := hC.2.1
  have hl : lv_has ls 5 [(0, .ref (ad 8))] := hl
  have w_9 : ∀ (n : Nat) (x1 : Int32) (x2 : Int32) (x3 : Int32) (G : SG) (H : Heap) (locs : List Loc) (ls : Array Slot), V_X6_numberWord_9 N post n x1 x2 x3 G → Wd D (ty4 cI cC cZ cJ) A s (wT ad cI cC cZ cJ N G) H locs → lv_has ls 5 [(0, .ref (ad 8)), (1, .int x1), (2, .int x2), (3, .int x3)] → W p l e RM_X6_numberWord s m args below meth c H locs 0 0 (QI below D (ty4 cI cC cZ cJ) A args s (fun u : SG => (wT ad cI cC cZ cJ N u)) post) (F0 m 9 ls []) := by
    intro n
    induction n with
    | zero =>
      intro x1 x2 x3 G H locs ls h
      exact False.elim h
    | succ n ih =>
      intro x1 x2 x3 G H locs ls h hw hl
      rw [V_X6_numberWord_9] at h
      refine lv_iload_n hx hb dX6_numberWord_9 rfl (lv_at hl 3 rfl) ?_
      refine lv_aload_n hx hb dX6_numberWord_10 rfl (lv_at hl 0 rfl) ?_
      refine gt (v := .int (G 3 0 0)) kfX6_69 8 hC hw rfl rfl dX6_numberWord_11 ?_
      refine lv_icmp_ge (tgt := 69) hx hb dX6_numberWord_14 (by decide) (fun c_1 => ?_) (fun c_1 => ?_)
      · have h := h.1 c_1
        refine lv_iload_n hx hb dX6_numberWord_69 rfl (lv_at hl 2 rfl) ?_
        refine cSIn (np := 1) hE.2.2.2.2.2.2.2.2.1.2.2.2.2.2.2.1 kns kni knc (by decide) hC (m_X11_isInRange l x2 h) rfl rfl ⟨by decide, by decide⟩ rfl hl.1 (Nat.le_of_ble_eq_true rfl) dX6_numberWord_70 ⟨Nat.zero_le _, Nat.zero_le _⟩ rfl ?_
        intro r_2 h
        refine lv_if_eq (tgt := 84) hx hb dX6_numberWord_73 (by decide) (fun c_3 => ?_) (fun c_3 => ?_)
        · have h := h.1 c_3
          refine lv_iconst (v := (0 : Int32)) hx hb dX6_numberWord_84 (by decide) ?_
          exact rtI (wf := (fun u : SG => (wT ad cI cC cZ cJ N u))) G hC hr hlk hw rfl h dX6_numberWord_85
        · have h := h.2 c_3
          refine lv_iconst (v := (2 : Int32)) hx hb dX6_numberWord_76 (by decide) ?_
          refine lv_iload_n hx hb dX6_numberWord_77 rfl (lv_at hl 2 rfl) ?_
          refine cSI ksX6_98 hC (m_X10_of l (2 : Int32) x2 h) rfl rfl ⟨by decide, by decide⟩ rfl hl.1 (Nat.le_of_ble_eq_true rfl) dX6_numberWord_78 ⟨Nat.zero_le _, Nat.zero_le _⟩ rfl ?_
          intro r_4 h
          refine lv_goto (tgt := 85) hx hb dX6_numberWord_81 (by decide) ?_
          exact rtI (wf := (fun u : SG => (wT ad cI cC cZ cJ N u))) G hC hr hlk hw rfl h dX6_numberWord_85
      · have h := h.2 c_1
        refine lv_iload_n hx hb dX6_numberWord_17 rfl (lv_at hl 3 rfl) ?_
        refine lv_aload_n hx hb dX6_numberWord_18 rfl (lv_at hl 0 rfl) ?_
        refine gt (v := .ref (ad 9)) kfX6_9 8 hC hw rfl rfl dX6_numberWord_19 ?_
        refine aln 9 1 (v := (512 : Int32)) hC hw rfl rfl (show Int32.ofNat 512 = (512 : Int32) by decide) dX6_numberWord_22 ?_
        refine lv_icmp_ge (tgt := 69) hx hb dX6_numberWord_23 (by decide) (fun c_5 => ?_) (fun c_5 => ?_)
        · have h := h.1 c_5
          refine lv_iload_n hx hb dX6_numberWord_69 rfl (lv_at hl 2 rfl) ?_
          refine cSIn (np := 1) hE.2.2.2.2.2.2.2.2.1.2.2.2.2.2.2.1 kns kni knc (by decide) hC (m_X11_isInRange l x2 h) rfl rfl ⟨by decide, by decide⟩ rfl hl.1 (Nat.le_of_ble_eq_true rfl) dX6_numberWord_70 ⟨Nat.zero_le _, Nat.zero_le _⟩ rfl ?_
          intro r_6 h
          refine lv_if_eq (tgt := 84) hx hb dX6_numberWord_73 (by decide) (fun c_7 => ?_) (fun c_7 => ?_)
          · have h := h.1 c_7
            refine lv_iconst (v := (0 : Int32)) hx hb dX6_numberWord_84 (by decide) ?_
            exact rtI (wf := (fun u : SG => (wT ad cI cC cZ cJ N u))) G hC hr hlk hw rfl h dX6_numberWord_85
          · have h := h.2 c_7
            refine lv_iconst (v := (2 : Int32)) hx hb dX6_numberWord_76 (by decide) ?_
            refine lv_iload_n hx hb dX6_numberWord_77 rfl (lv_at hl 2 rfl) ?_
            refine cSI ksX6_98 hC (m_X10_of l (2 : Int32) x2 h) rfl rfl ⟨by decide, by decide⟩ rfl hl.1 (Nat.le_of_ble_eq_true rfl) dX6_numberWord_78 ⟨Nat.zero_le _, Nat.zero_le _⟩ rfl ?_
            intro r_8 h
            refine lv_goto (tgt := 85) hx hb dX6_numberWord_81 (by decide) ?_
            exact rtI (wf := (fun u : SG => (wT ad cI cC cZ cJ N u))) G hC hr hlk hw rfl h dX6_numberWord_85
        · have h := h.2 c_5
          refine lv_iload_n hx hb dX6_numberWord_26 rfl (lv_at hl 2 rfl) ?_
          refine cSIn (np := 1) hE.2.2.2.2.2.2.2.2.1.2.2.2.2.2.2.1 kns kni knc (by decide) hC (m_X11_isInRange l x2 h) rfl rfl ⟨by decide, by decide⟩ rfl hl.1 (Nat.le_of_ble_eq_true rfl) dX6_numberWord_27 ⟨Nat.zero_le _, Nat.zero_le _⟩ rfl ?_
          intro r_9 h
          refine lv_if_eq (tgt := 69) hx hb dX6_numberWord_30 (by decide) (fun c_10 => ?_) (fun c_10 => ?_)
          · have h := h.1 c_10
            refine lv_iload_n hx hb dX6_numberWord_69 rfl (lv_at hl 2 rfl) ?_
            refine cSIn (np := 1) hE.2.2.2.2.2.2.2.2.1.2.2.2.2.2.2.1 kns kni knc (by decide) hC (m_X11_isInRange l x2 h) rfl rfl ⟨by decide, by decide⟩ rfl hl.1 (Nat.le_of_ble_eq_true rfl) dX6_numberWord_70 ⟨Nat.zero_le _, Nat.zero_le _⟩ rfl ?_
            intro r_11 h
            refine lv_if_eq (tgt := 84) hx hb dX6_numberWord_73 (by decide) (fun c_12 => ?_) (fun c_12 => ?_)
            · have h := h.1 c_12
              refine lv_iconst (v := (0 : Int32)) hx hb dX6_numberWord_84 (by decide) ?_
              exact rtI (wf := (fun u : SG => (wT ad cI cC cZ cJ N u))) G hC hr hlk hw rfl h dX6_numberWord_85
            · have h := h.2 c_12
              refine lv_iconst (v := (2 : Int32)) hx hb dX6_numberWord_76 (by decide) ?_
              refine lv_iload_n hx hb dX6_numberWord_77 rfl (lv_at hl 2 rfl) ?_
              refine cSI ksX6_98 hC (m_X10_of l (2 : Int32) x2 h) rfl rfl ⟨by decide, by decide⟩ rfl hl.1 (Nat.le_of_ble_eq_true rfl) dX6_numberWord_78 ⟨Nat.zero_le _, Nat.zero_le _⟩ rfl ?_
              intro r_13 h
              refine lv_goto (tgt := 85) hx hb dX6_numberWord_81 (by decide) ?_
              exact rtI (wf := (fun u : SG => (wT ad cI cC cZ cJ N u))) G hC hr hlk hw rfl h dX6_numberWord_85
          · have h := h.2 c_10
            refine lv_aload_n hx hb dX6_numberWord_33 rfl (lv_at hl 0 rfl) ?_
            refine gt (v := .ref (ad 9)) kfX6_9 8 hC hw rfl rfl dX6_numberWord_34 ?_
            refine lv_iload_n hx hb dX6_numberWord_37 rfl (lv_at hl 3 rfl) ?_
            refine ldC 9 1 hC hw rfl rfl h.1 dX6_numberWord_38 ?_
            have h := h.2
            refine lv_bipush (v := (48 : Int32)) hx hb dX6_numberWord_39 (by decide) ?_
            refine lv_isub hx hb dX6_numberWord_41 ?_
            refine lv_topi (fun x_14 ex_14 => ?_)
            have h := h x_14 ex_14
            refine lv_istore (lv' := [(4, .int x_14), (0, .ref (ad 8)), (1, .int x1), (2, .int x2), (3, .int x3)]) hx hb dX6_numberWord_42 hl (by decide) rfl (fun ls hl => ?_)
            refine lv_iload_n hx hb dX6_numberWord_44 rfl (lv_at hl 3 rfl) ?_
            refine lv_bipush (v := (10 : Int32)) hx hb dX6_numberWord_45 (by decide) ?_
            refine lv_imul hx hb dX6_numberWord_47 ?_
            refine lv_iload_n hx hb dX6_numberWord_48 rfl (lv_at hl 2 rfl) ?_
            refine lv_iconst (v := (1 : Int32)) hx hb dX6_numberWord_49 (by decide) ?_
            refine lv_icmp_ne (tgt := 59) hx hb dX6_numberWord_50 (by decide) (fun c_15 => ?_) (fun c_15 => ?_)
            · have h := h.1 c_15
              refine lv_iload hx hb dX6_numberWord_59 (lv_at hl 0 rfl) ?_
              refine lv_iadd hx hb dX6_numberWord_61 ?_
              refine lv_topi (fun x_16 ex_16 => ?_)
              have h := h x_16 ex_16
              refine lv_istore_n (lv' := [(2, .int x_16), (4, .int x_14), (0, .ref (ad 8)), (1, .int x1), (3, .int x3)]) hx hb dX6_numberWord_62 rfl hl (by decide) rfl (fun ls hl => ?_)
              obtain ⟨x_17, ex_17⟩ : ∃ y : Int32, y = x3 + (1 : Int32) := ⟨_, rfl⟩
              have h := h x_17 ex_17
              refine lv_iinc (v := x_17) (lv' := [(3, .int x_17), (2, .int x_16), (4, .int x_14), (0, .ref (ad 8)), (1, .int x1)]) hx hb dX6_numberWord_63 hl (k := 4) rfl (by rw [ex_17]; rfl) (by decide) rfl (fun ls hl => ?_)
              refine lv_goto (tgt := 9) hx hb dX6_numberWord_66 (by decide) ?_
              exact ih x1 x_16 x_17 G _ _ _ h hw (lv_sub hl [3, 4, 1, 0] rfl)
            · have h := h.2 c_15
              refine lv_iload hx hb dX6_numberWord_53 (lv_at hl 0 rfl) ?_
              refine lv_ineg hx hb dX6_numberWord_55 ?_
              refine lv_goto (tgt := 61) hx hb dX6_numberWord_56 (by decide) ?_
              refine lv_iadd hx hb dX6_numberWord_61 ?_
              refine lv_topi (fun x_18 ex_18 => ?_)
              have h := h x_18 ex_18
              refine lv_istore_n (lv' := [(2, .int x_18), (4, .int x_14), (0, .ref (ad 8)), (1, .int x1), (3, .int x3)]) hx hb dX6_numberWord_62 rfl hl (by decide) rfl (fun ls hl => ?_)
              obtain ⟨x_19, ex_19⟩ : ∃ y : Int32, y = x3 + (1 : Int32) := ⟨_, rfl⟩
              have h := h x_19 ex_19
              refine lv_iinc (v := x_19) (lv' := [(3, .int x_19), (2, .int x_18), (4, .int x_14), (0, .ref (ad 8)), (1, .int x1)]) hx hb dX6_numberWord_63 hl (k := 4) rfl (by rw [ex_19]; rfl) (by decide) rfl (fun ls hl => ?_)
              refine lv_goto (tgt := 9) hx hb dX6_numberWord_66 (by decide) ?_
              exact ih x1 x_18 x_19 G _ _ _ h hw (lv_sub hl [3, 4, 1, 0] rfl)
  unfold V_X6_numberWord at h
  refine lv_aload_n hx hb dX6_numberWord_0 rfl (lv_at hl 0 rfl) ?_
  refine cVIwe kmX6_102 hC hw hE (m_X6_firstDigit l D cI cC cZ cJ ad N ea  G h) rfl rfl ⟨by decide, by decide⟩ (recvW hw rfl 8 rfl) rfl hl.1 (Nat.le_of_ble_eq_true rfl) dX6_numberWord_1 ⟨Nat.zero_le _, Nat.zero_le _⟩ rfl ?_
  intro r_20 g_21 H locs h hw
  refine lv_istore_n (lv' := [(1, .int r_20), (0, .ref (ad 8))]) hx hb dX6_numberWord_4 rfl hl (by decide) rfl (fun ls hl => ?_)
  refine lv_iconst (v := (0 : Int32)) hx hb dX6_numberWord_5 (by decide) ?_
  refine lv_topi (fun x_22 ex_22 => ?_)
  have h := h x_22 ex_22
  refine lv_istore_n (lv' := [(2, .int x_22), (1, .int r_20), (0, .ref (ad 8))]) hx hb dX6_numberWord_6 rfl hl (by decide) rfl (fun ls hl => ?_)
  refine lv_iload_n hx hb dX6_numberWord_7 rfl (lv_at hl 1 rfl) ?_
  refine lv_istore_n (lv' := [(3, .int r_20), (2, .int x_22), (1, .int r_20), (0, .ref (ad 8))]) hx hb dX6_numberWord_8 rfl hl (by decide) rfl (fun ls hl => ?_)
  exact w_9 n r_20 x_22 r_20 g_21 _ _ _ h hw (lv_sub hl [3, 2, 1, 0] rfl)
def V_X6_atomWord_55 (N : Nat) (post : Int32 → SG → Prop) (n : Nat) (G : SG) : Prop := V_X9_numbered 512 n (G 3 0 0) (mx (G 1) 5 (G 3 1)) (fun r_1 u_3 => ∀ g_2 : SG, g_2 = uo (uo G 1 u_3) 3 (mx (G 3) 1 (u_3 5)) → ((0 ≤ r_1 → V_X10_of (3 : Int32) r_1 (fun r_5 => post r_5 g_2)) ∧ (¬ 0 ≤ r_1 → post (0 : Int32) g_2)))
def V_X6_atomWord (N : Nat) (n : Nat) (G : SG) (post : Int32 → SG → Prop) : Prop := V_X6_isNumber N n  G (fun r_6 g_7 => ((r_6 = 0 → ((¬ (g_7 3 0 0) = (3 : Int32) → V_X6_atomWord_55 N post n g_7) ∧ ((g_7 3 0 0) = (3 : Int32) → (vp_in (0 : Int32) 512 ∧ ((¬ (g_7 3 1 (0 : Int32).toNatClampNeg) = (110 : Int32) → V_X6_atomWord_55 N post n g_7) ∧ ((g_7 3 1 (0 : Int32).toNatClampNeg) = (110 : Int32) → (vp_in (1 : Int32) 512 ∧ ((¬ (g_7 3 1 (1 : Int32).toNatClampNeg) = (105 : Int32) → V_X6_atomWord_55 N post n g_7) ∧ ((g_7 3 1 (1 : Int32).toNatClampNeg) = (105 : Int32) → (vp_in (2 : Int32) 512 ∧ ((¬ (g_7 3 1 (2 : Int32).toNatClampNeg) = (108 : Int32) → V_X6_atomWord_55 N post n g_7) ∧ ((g_7 3 1 (2 : Int32).toNatClampNeg) = (108 : Int32) → post (1 : Int32) g_7)))))))))))) ∧ (¬ r_6 = 0 → V_X6_numberWord N n  g_7 (fun r_13 g_14 => post r_13 g_14))))
abbrev RM_X6_atomWord : Room := { frames := 8, cells := 0, slots := 0, locals := 177 }
set_option maxHeartbeats 4000000 in
set_option maxRecDepth 100000 in
theorem m_X6_atomWord (l : Launch) (D : va_G) (cI cC cZ cJ : ClassId) (ad : Nat → Nat) (N : Nat) (ea : Nat → Nat → Nat) (n : Nat) (G : SG) {post : Int32 → SG → Prop} (h : V_X6_atomWord N n G post) : MetIE ea l yX6_atomWord cX6_atomWord 2 .int RM_X6_atomWord D (ty4 cI cC cZ cJ) (wT ad cI cC cZ cJ N G) [.ref (ad 8)] (fun u : SG => (wT ad cI cC cZ cJ N u)) post := by
  refine mkIE (by decide) (Nat.le_of_ble_eq_true rfl) ?_
  intro p e s m args below meth c A ls hC hr hlk hw hE hl
  have hx := hC.1
  have hb := hC.2.1
  have hl : lv_has ls 2 [(0, .ref (ad 8))] := hl
  have w_55 : ∀ (n : Nat) (G : SG) (H : Heap) (locs : List Loc) (ls : Array Slot), V_X6_atomWord_55 N post n G → Wd D (ty4 cI cC cZ cJ) A s (wT ad cI cC cZ cJ N G) H locs → lv_has ls 2 [(0, .ref (ad 8))] → W p l e RM_X6_atomWord s m args below meth c H locs 0 0 (QI below D (ty4 cI cC cZ cJ) A args s (fun u : SG => (wT ad cI cC cZ cJ N u)) post) (F0 m 55 ls []) := by
    intro n G H locs ls h hw hl
    unfold V_X6_atomWord_55 at h
    refine lv_aload_n hx hb dX6_atomWord_55 rfl (lv_at hl 0 rfl) ?_
    refine gt (v := .ref (ad 1)) kfX6_36 8 hC hw rfl rfl dX6_atomWord_56 ?_
    refine lv_aload_n hx hb dX6_atomWord_59 rfl (lv_at hl 0 rfl) ?_
    refine gt (v := .ref (ad 9)) kfX6_9 8 hC hw rfl rfl dX6_atomWord_60 ?_
    refine lv_aload_n hx hb dX6_atomWord_63 rfl (lv_at hl 0 rfl) ?_
    refine gt (v := .int (G 3 0 0)) kfX6_69 8 hC hw rfl rfl dX6_atomWord_64 ?_
    refine eI_wT_wSyN_1_9 kmX6_92 hC hw hE (m_X9_numbered l D cI cC cZ cJ (fun j => ad (1 + j)) (ad 9) 512 ea n (G 3 0 0) (mx (G 1) 5 (G 3 1)) h) rfl rfl ⟨by decide, by decide⟩ rfl hl.1 (Nat.le_of_ble_eq_true rfl) dX6_atomWord_67 ⟨Nat.zero_le _, Nat.zero_le _⟩ rfl ?_
    intro r_1 u_3 g_2 H locs eg_2 h hw
    have h := h g_2 eg_2
    refine lv_istore_n (lv' := [(1, .int r_1), (0, .ref (ad 8))]) hx hb dX6_atomWord_70 rfl hl (by decide) rfl (fun ls hl => ?_)
    refine lv_iload_n hx hb dX6_atomWord_71 rfl (lv_at hl 0 rfl) ?_
    refine lv_if_ge (tgt := 79) hx hb dX6_atomWord_72 (by decide) (fun c_4 => ?_) (fun c_4 => ?_)
    · have h := h.1 c_4
      refine lv_iconst (v := (3 : Int32)) hx hb dX6_atomWord_79 (by decide) ?_
      refine lv_iload_n hx hb dX6_atomWord_80 rfl (lv_at hl 0 rfl) ?_
      refine cSI ksX6_98 hC (m_X10_of l (3 : Int32) r_1 h) rfl rfl ⟨by decide, by decide⟩ rfl hl.1 (Nat.le_of_ble_eq_true rfl) dX6_atomWord_81 ⟨Nat.zero_le _, Nat.zero_le _⟩ rfl ?_
      intro r_5 h
      exact rtI (wf := (fun u : SG => (wT ad cI cC cZ cJ N u))) g_2 hC hr hlk hw rfl h dX6_atomWord_84
    · have h := h.2 c_4
      refine lv_iconst (v := (0 : Int32)) hx hb dX6_atomWord_75 (by decide) ?_
      refine lv_goto (tgt := 84) hx hb dX6_atomWord_76 (by decide) ?_
      exact rtI (wf := (fun u : SG => (wT ad cI cC cZ cJ N u))) g_2 hC hr hlk hw rfl h dX6_atomWord_84
  unfold V_X6_atomWord at h
  refine lv_aload_n hx hb dX6_atomWord_0 rfl (lv_at hl 0 rfl) ?_
  refine cVIwe kmX6_86 hC hw hE (m_X6_isNumber l D cI cC cZ cJ ad N ea n  G h) rfl rfl ⟨by decide, by decide⟩ (recvW hw rfl 8 rfl) rfl hl.1 (Nat.le_of_ble_eq_true rfl) dX6_atomWord_1 ⟨Nat.zero_le _, Nat.zero_le _⟩ rfl ?_
  intro r_6 g_7 H locs h hw
  refine lv_if_eq (tgt := 12) hx hb dX6_atomWord_4 (by decide) (fun c_8 => ?_) (fun c_8 => ?_)
  · have h := h.1 c_8
    refine lv_aload_n hx hb dX6_atomWord_12 rfl (lv_at hl 0 rfl) ?_
    refine gt (v := .int (g_7 3 0 0)) kfX6_69 8 hC hw rfl rfl dX6_atomWord_13 ?_
    refine lv_iconst (v := (3 : Int32)) hx hb dX6_atomWord_16 (by decide) ?_
    refine lv_icmp_ne (tgt := 55) hx hb dX6_atomWord_17 (by decide) (fun c_9 => ?_) (fun c_9 => ?_)
    · have h := h.1 c_9
      exact w_55 n g_7 _ _ _ h hw (lv_sub hl [0] rfl)
    · have h := h.2 c_9
      refine lv_aload_n hx hb dX6_atomWord_20 rfl (lv_at hl 0 rfl) ?_
      refine gt (v := .ref (ad 9)) kfX6_9 8 hC hw rfl rfl dX6_atomWord_21 ?_
      refine lv_iconst (v := (0 : Int32)) hx hb dX6_atomWord_24 (by decide) ?_
      refine ldC 9 1 hC hw rfl rfl h.1 dX6_atomWord_25 ?_
      have h := h.2
      refine lv_bipush (v := (110 : Int32)) hx hb dX6_atomWord_26 (by decide) ?_
      refine lv_icmp_ne (tgt := 55) hx hb dX6_atomWord_28 (by decide) (fun c_10 => ?_) (fun c_10 => ?_)
      · have h := h.1 c_10
        exact w_55 n g_7 _ _ _ h hw (lv_sub hl [0] rfl)
      · have h := h.2 c_10
        refine lv_aload_n hx hb dX6_atomWord_31 rfl (lv_at hl 0 rfl) ?_
        refine gt (v := .ref (ad 9)) kfX6_9 8 hC hw rfl rfl dX6_atomWord_32 ?_
        refine lv_iconst (v := (1 : Int32)) hx hb dX6_atomWord_35 (by decide) ?_
        refine ldC 9 1 hC hw rfl rfl h.1 dX6_atomWord_36 ?_
        have h := h.2
        refine lv_bipush (v := (105 : Int32)) hx hb dX6_atomWord_37 (by decide) ?_
        refine lv_icmp_ne (tgt := 55) hx hb dX6_atomWord_39 (by decide) (fun c_11 => ?_) (fun c_11 => ?_)
        · have h := h.1 c_11
          exact w_55 n g_7 _ _ _ h hw (lv_sub hl [0] rfl)
        · have h := h.2 c_11
          refine lv_aload_n hx hb dX6_atomWord_42 rfl (lv_at hl 0 rfl) ?_
          refine gt (v := .ref (ad 9)) kfX6_9 8 hC hw rfl rfl dX6_atomWord_43 ?_
          refine lv_iconst (v := (2 : Int32)) hx hb dX6_atomWord_46 (by decide) ?_
          refine ldC 9 1 hC hw rfl rfl h.1 dX6_atomWord_47 ?_
          have h := h.2
          refine lv_bipush (v := (108 : Int32)) hx hb dX6_atomWord_48 (by decide) ?_
          refine lv_icmp_ne (tgt := 55) hx hb dX6_atomWord_50 (by decide) (fun c_12 => ?_) (fun c_12 => ?_)
          · have h := h.1 c_12
            exact w_55 n g_7 _ _ _ h hw (lv_sub hl [0] rfl)
          · have h := h.2 c_12
            refine lv_iconst (v := (1 : Int32)) hx hb dX6_atomWord_53 (by decide) ?_
            exact rtI (wf := (fun u : SG => (wT ad cI cC cZ cJ N u))) g_7 hC hr hlk hw rfl h dX6_atomWord_54
  · have h := h.2 c_8
    refine lv_aload_n hx hb dX6_atomWord_7 rfl (lv_at hl 0 rfl) ?_
    refine cVIwe kmX6_89 hC hw hE (m_X6_numberWord l D cI cC cZ cJ ad N ea n  g_7 h) rfl rfl ⟨by decide, by decide⟩ (recvW hw rfl 8 rfl) rfl hl.1 (Nat.le_of_ble_eq_true rfl) dX6_atomWord_8 ⟨Nat.zero_le _, Nat.zero_le _⟩ rfl ?_
    intro r_13 g_14 H locs h hw
    exact rtI (wf := (fun u : SG => (wT ad cI cC cZ cJ N u))) g_14 hC hr hlk hw rfl h dX6_atomWord_11
def V_X6_isQuoteOpen (N : Nat) (G : SG) (post : Int32 → SG → Prop) : Prop := (((G 3 0 1) ≤ 0 → post (0 : Int32) G) ∧ (¬ (G 3 0 1) ≤ 0 → (((12 : Int32) < (G 3 0 1) → post (0 : Int32) G) ∧ (¬ (12 : Int32) < (G 3 0 1) → (vp_in ((G 3 0 1) - (1 : Int32)) 12 ∧ (((G 3 2 ((G 3 0 1) - (1 : Int32)).toNatClampNeg) = 0 → post (0 : Int32) G) ∧ (¬ (G 3 2 ((G 3 0 1) - (1 : Int32)).toNatClampNeg) = 0 → post (1 : Int32) G)))))))
abbrev RM_X6_isQuoteOpen : Room := { frames := 0, cells := 0, slots := 0, locals := 0 }
set_option maxHeartbeats 4000000 in
set_option maxRecDepth 100000 in
theorem m_X6_isQuoteOpen (l : Launch) (D : va_G) (cI cC cZ cJ : ClassId) (ad : Nat → Nat) (N : Nat) (ea : Nat → Nat → Nat) (G : SG) {post : Int32 → SG → Prop} (h : V_X6_isQuoteOpen N G post) : MetIE ea l yX6_isQuoteOpen cX6_isQuoteOpen 1 .boolean RM_X6_isQuoteOpen D (ty4 cI cC cZ cJ) (wT ad cI cC cZ cJ N G) [.ref (ad 8)] (fun u : SG => (wT ad cI cC cZ cJ N u)) post := by
  refine mkIE (by decide) (Nat.le_of_ble_eq_true rfl) ?_
  intro p e s m args below meth c A ls hC hr hlk hw hE hl
  have hx := hC.1
  have hb := hC.2.1
  have hl : lv_has ls 1 [(0, .ref (ad 8))] := hl
  unfold V_X6_isQuoteOpen at h
  refine lv_aload_n hx hb dX6_isQuoteOpen_0 rfl (lv_at hl 0 rfl) ?_
  refine gt (v := .int (G 3 0 1)) kfX6_63 8 hC hw rfl rfl dX6_isQuoteOpen_1 ?_
  refine lv_if_le (tgt := 34) hx hb dX6_isQuoteOpen_4 (by decide) (fun c_1 => ?_) (fun c_1 => ?_)
  · have h := h.1 c_1
    refine lv_iconst (v := (0 : Int32)) hx hb dX6_isQuoteOpen_34 (by decide) ?_
    exact rtI (wf := (fun u : SG => (wT ad cI cC cZ cJ N u))) G hC hr hlk hw (by decide) h dX6_isQuoteOpen_35
  · have h := h.2 c_1
    refine lv_aload_n hx hb dX6_isQuoteOpen_7 rfl (lv_at hl 0 rfl) ?_
    refine gt (v := .int (G 3 0 1)) kfX6_63 8 hC hw rfl rfl dX6_isQuoteOpen_8 ?_
    refine lv_bipush (v := (12 : Int32)) hx hb dX6_isQuoteOpen_11 (by decide) ?_
    refine lv_icmp_gt (tgt := 34) hx hb dX6_isQuoteOpen_13 (by decide) (fun c_2 => ?_) (fun c_2 => ?_)
    · have h := h.1 c_2
      refine lv_iconst (v := (0 : Int32)) hx hb dX6_isQuoteOpen_34 (by decide) ?_
      exact rtI (wf := (fun u : SG => (wT ad cI cC cZ cJ N u))) G hC hr hlk hw (by decide) h dX6_isQuoteOpen_35
    · have h := h.2 c_2
      refine lv_aload_n hx hb dX6_isQuoteOpen_16 rfl (lv_at hl 0 rfl) ?_
      refine gt (v := .ref (ad 10)) kfX6_15 8 hC hw rfl rfl dX6_isQuoteOpen_17 ?_
      refine lv_aload_n hx hb dX6_isQuoteOpen_20 rfl (lv_at hl 0 rfl) ?_
      refine gt (v := .int (G 3 0 1)) kfX6_63 8 hC hw rfl rfl dX6_isQuoteOpen_21 ?_
      refine lv_iconst (v := (1 : Int32)) hx hb dX6_isQuoteOpen_24 (by decide) ?_
      refine lv_isub hx hb dX6_isQuoteOpen_25 ?_
      refine ldZ 10 2 hC hw rfl rfl h.1 dX6_isQuoteOpen_26 ?_
      have h := h.2
      refine lv_if_eq (tgt := 34) hx hb dX6_isQuoteOpen_27 (by decide) (fun c_3 => ?_) (fun c_3 => ?_)
      · have h := h.1 c_3
        refine lv_iconst (v := (0 : Int32)) hx hb dX6_isQuoteOpen_34 (by decide) ?_
        exact rtI (wf := (fun u : SG => (wT ad cI cC cZ cJ N u))) G hC hr hlk hw (by decide) h dX6_isQuoteOpen_35
      · have h := h.2 c_3
        refine lv_iconst (v := (1 : Int32)) hx hb dX6_isQuoteOpen_30 (by decide) ?_
        refine lv_goto (tgt := 35) hx hb dX6_isQuoteOpen_31 (by decide) ?_
        exact rtI (wf := (fun u : SG => (wT ad cI cC cZ cJ N u))) G hC hr hlk hw (by decide) h dX6_isQuoteOpen_35
def V_X6_addValue_55 (N : Nat) (post : SG → Prop) (n : Nat) (x2 : Int32) (G : SG) : Prop := (((G 3 0 1) ≤ 0 → post G) ∧ (¬ (G 3 0 1) ≤ 0 → (((G 3 0 1) ≤ (12 : Int32) → V_X2_readCell N x2 (1 : Int32) (G 2) (fun r_3 u_5 => ∀ g_4 : SG, g_4 = uo G 2 u_5 → (vp_in ((g_4 3 0 1) - (1 : Int32)) 12 ∧ ∀ x_6 : Int32, x_6 = (g_4 3 4 ((g_4 3 0 1) - (1 : Int32)).toNatClampNeg) → ((¬ x_6 = (1 : Int32) → V_X10_held x_6 (fun r_8 => V_X2_put N (r_8 + (1 : Int32)) r_3 (g_4 2) (fun u_11 => ∀ g_10 : SG, g_10 = uo g_4 2 u_11 → (vp_in ((g_10 3 0 1) - (1 : Int32)) 12 ∧ ∀ g_12 : SG, g_12 = uo g_10 3 (up (g_10 3) 4 ((g_10 3 0 1) - (1 : Int32)).toNatClampNeg r_3) → post g_12)))) ∧ (x_6 = (1 : Int32) → (vp_in ((g_4 3 0 1) - (1 : Int32)) 12 ∧ ∀ g_13 : SG, g_13 = uo g_4 3 (up (g_4 3) 3 ((g_4 3 0 1) - (1 : Int32)).toNatClampNeg r_3) → (vp_in ((g_13 3 0 1) - (1 : Int32)) 12 ∧ ∀ g_14 : SG, g_14 = uo g_13 3 (up (g_13 3) 4 ((g_13 3 0 1) - (1 : Int32)).toNatClampNeg r_3) → post g_14))))))) ∧ (¬ (G 3 0 1) ≤ (12 : Int32) → post G))))
def V_X6_addValue_4 (N : Nat) (post : SG → Prop) : Nat → Int32 → Int32 → SG → Prop
  | 0, _, _, _ => False
  | n + 1, x2, x3, G => (((12 : Int32) ≤ x3 → V_X6_addValue_55 N post n x2 G) ∧ (¬ (12 : Int32) ≤ x3 → V_X6_isQuoteOpen N  G (fun r_16 g_17 => ((r_16 = 0 → V_X6_addValue_55 N post n x2 g_17) ∧ (¬ r_16 = 0 → ∀ g_19 : SG, g_19 = uo g_17 3 (us (g_17 3) 1 ((g_17 3 0 1) - (1 : Int32))) → V_X10_of (3 : Int32) (2 : Int32) (fun r_20 => V_X2_readCell N x2 (1 : Int32) (g_19 2) (fun r_21 u_23 => ∀ g_22 : SG, g_22 = uo g_19 2 u_23 → V_X2_readCell N r_20 r_21 (g_22 2) (fun r_24 u_26 => ∀ g_25 : SG, g_25 = uo g_22 2 u_26 → ∀ x_27 : Int32, x_27 = x3 + (1 : Int32) → V_X6_addValue_4 N post n r_24 x_27 g_25))))))))
def V_X6_addValue (N : Nat) (n : Nat) (x1 : Int32) (G : SG) (post : SG → Prop) : Prop := ∀ x_28 : Int32, x_28 = (0 : Int32) → V_X6_addValue_4 N post n x1 x_28 G
abbrev RM_X6_addValue : Room := { frames := 2, cells := 0, slots := 0, locals := 45 }
set_option maxHeartbeats 4000000 in
set_option maxRecDepth 100000 in
theorem m_X6_addValue (l : Launch) (D : va_G) (cI cC cZ cJ : ClassId) (ad : Nat → Nat) (N : Nat) (ea : Nat → Nat → Nat) (n : Nat) (x1 : Int32) (G : SG) {post : SG → Prop} (h : V_X6_addValue N n x1 G post) : MetVE ea l yX6_addValue cX6_addValue 5 RM_X6_addValue D (ty4 cI cC cZ cJ) (wT ad cI cC cZ cJ N G) [.ref (ad 8), .int x1] (fun u : SG => (wT ad cI cC cZ cJ N u)) post := by
  refine mkVE (by decide) (Nat.le_of_ble_eq_true rfl) ?_
  intro p e s m args below meth c A ls hC hr hlk hw hE hl
  have hx := hC.1
  have hb := hC.2.1
  have hl : lv_has ls 5 [(0, .ref (ad 8)), (1, .int x1)] := hl
  have w_55 : ∀ (n : Nat) (x2 : Int32) (G : SG) (H : Heap) (locs : List Loc) (ls : Array Slot), V_X6_addValue_55 N post n x2 G → Wd D (ty4 cI cC cZ cJ) A s (wT ad cI cC cZ cJ N G) H locs → lv_has ls 5 [(0, .ref (ad 8)), (2, .int x2)] → W p l e RM_X6_addValue s m args below meth c H locs 0 0 (QV below D (ty4 cI cC cZ cJ) A args s (fun u : SG => (wT ad cI cC cZ cJ N u)) post) (F0 m 55 ls []) := by
    intro n x2 G H locs ls h hw hl
    unfold V_X6_addValue_55 at h
    refine lv_aload_n hx hb dX6_addValue_55 rfl (lv_at hl 0 rfl) ?_
    refine gt (v := .int (G 3 0 1)) kfX6_63 8 hC hw rfl rfl dX6_addValue_56 ?_
    refine lv_if_le (tgt := 71) hx hb dX6_addValue_59 (by decide) (fun c_1 => ?_) (fun c_1 => ?_)
    · have h := h.1 c_1
      exact rtV (wf := (fun u : SG => (wT ad cI cC cZ cJ N u))) G hC hr hlk hw h dX6_addValue_71
    · have h := h.2 c_1
      refine lv_aload_n hx hb dX6_addValue_62 rfl (lv_at hl 0 rfl) ?_
      refine gt (v := .int (G 3 0 1)) kfX6_63 8 hC hw rfl rfl dX6_addValue_63 ?_
      refine lv_bipush (v := (12 : Int32)) hx hb dX6_addValue_66 (by decide) ?_
      refine lv_icmp_le (tgt := 72) hx hb dX6_addValue_68 (by decide) (fun c_2 => ?_) (fun c_2 => ?_)
      · have h := h.1 c_2
        refine lv_aload_n hx hb dX6_addValue_72 rfl (lv_at hl 0 rfl) ?_
        refine gt (v := .ref (ad 6)) kfX6_32 8 hC hw rfl rfl dX6_addValue_73 ?_
        refine lv_iload_n hx hb dX6_addValue_76 rfl (lv_at hl 1 rfl) ?_
        refine lv_iconst (v := (1 : Int32)) hx hb dX6_addValue_77 (by decide) ?_
        refine eI_wT_wHp_6 kmX6_114 hC hw (m_X2_readCell l D cI cC cZ cJ (fun j => ad (6 + j)) N x2 (1 : Int32) (G 2) h) rfl rfl ⟨by decide, by decide⟩ rfl hl.1 (Nat.le_of_ble_eq_true rfl) dX6_addValue_78 ⟨Nat.zero_le _, Nat.zero_le _⟩ rfl ?_
        intro r_3 u_5 g_4 H locs eg_4 h hw
        have h := h g_4 eg_4
        refine lv_istore_n (lv' := [(3, .int r_3), (0, .ref (ad 8)), (2, .int x2)]) hx hb dX6_addValue_81 rfl hl (by decide) rfl (fun ls hl => ?_)
        refine lv_aload_n hx hb dX6_addValue_82 rfl (lv_at hl 1 rfl) ?_
        refine gt (v := .ref (ad 12)) kfX6_23 8 hC hw rfl rfl dX6_addValue_83 ?_
        refine lv_aload_n hx hb dX6_addValue_86 rfl (lv_at hl 1 rfl) ?_
        refine gt (v := .int (g_4 3 0 1)) kfX6_63 8 hC hw rfl rfl dX6_addValue_87 ?_
        refine lv_iconst (v := (1 : Int32)) hx hb dX6_addValue_90 (by decide) ?_
        refine lv_isub hx hb dX6_addValue_91 ?_
        refine ldI 12 0 hC hw rfl rfl h.1 dX6_addValue_92 ?_
        have h := h.2
        refine lv_topi (fun x_6 ex_6 => ?_)
        have h := h x_6 ex_6
        refine lv_istore (lv' := [(4, .int x_6), (3, .int r_3), (0, .ref (ad 8)), (2, .int x2)]) hx hb dX6_addValue_93 hl (by decide) rfl (fun ls hl => ?_)
        refine lv_iload hx hb dX6_addValue_95 (lv_at hl 0 rfl) ?_
        refine lv_iconst (v := (1 : Int32)) hx hb dX6_addValue_97 (by decide) ?_
        refine lv_icmp_ne (tgt := 116) hx hb dX6_addValue_98 (by decide) (fun c_7 => ?_) (fun c_7 => ?_)
        · have h := h.1 c_7
          refine lv_aload_n hx hb dX6_addValue_116 rfl (lv_at hl 2 rfl) ?_
          refine gt (v := .ref (ad 6)) kfX6_32 8 hC hw rfl rfl dX6_addValue_117 ?_
          refine lv_iload hx hb dX6_addValue_120 (lv_at hl 0 rfl) ?_
          refine cSI ksX6_117 hC (m_X10_held l x_6 h) rfl rfl ⟨by decide, by decide⟩ rfl hl.1 (Nat.le_of_ble_eq_true rfl) dX6_addValue_122 ⟨Nat.zero_le _, Nat.zero_le _⟩ rfl ?_
          intro r_8 h
          refine lv_iconst (v := (1 : Int32)) hx hb dX6_addValue_125 (by decide) ?_
          refine lv_iadd hx hb dX6_addValue_126 ?_
          refine lv_iload_n hx hb dX6_addValue_127 rfl (lv_at hl 1 rfl) ?_
          refine eV_wT_wHp_6 kmX6_121 hC hw (m_X2_put l D cI cC cZ cJ (fun j => ad (6 + j)) N (r_8 + (1 : Int32)) r_3 (g_4 2) h) rfl rfl ⟨by decide, by decide⟩ rfl hl.1 (Nat.le_of_ble_eq_true rfl) dX6_addValue_128 ⟨Nat.zero_le _, Nat.zero_le _⟩ rfl ?_
          intro u_11 g_10 H locs eg_10 h hw
          have h := h g_10 eg_10
          refine lv_aload_n hx hb dX6_addValue_131 rfl (lv_at hl 2 rfl) ?_
          refine gt (v := .ref (ad 12)) kfX6_23 8 hC hw rfl rfl dX6_addValue_132 ?_
          refine lv_aload_n hx hb dX6_addValue_135 rfl (lv_at hl 2 rfl) ?_
          refine gt (v := .int (g_10 3 0 1)) kfX6_63 8 hC hw rfl rfl dX6_addValue_136 ?_
          refine lv_iconst (v := (1 : Int32)) hx hb dX6_addValue_139 (by decide) ?_
          refine lv_isub hx hb dX6_addValue_140 ?_
          refine lv_iload_n hx hb dX6_addValue_141 rfl (lv_at hl 1 rfl) ?_
          refine swT_12 h.1 hC hw dX6_addValue_142 (fun H locs g_12 eg_12 hw => ?_)
          have h := h.2 g_12 eg_12
          exact rtV (wf := (fun u : SG => (wT ad cI cC cZ cJ N u))) g_12 hC hr hlk hw h dX6_addValue_143
        · have h := h.2 c_7
          refine lv_aload_n hx hb dX6_addValue_101 rfl (lv_at hl 2 rfl) ?_
          refine gt (v := .ref (ad 11)) kfX6_19 8 hC hw rfl rfl dX6_addValue_102 ?_
          refine lv_aload_n hx hb dX6_addValue_105 rfl (lv_at hl 2 rfl) ?_
          refine gt (v := .int (g_4 3 0 1)) kfX6_63 8 hC hw rfl rfl dX6_addValue_106 ?_
          refine lv_iconst (v := (1 : Int32)) hx hb dX6_addValue_109 (by decide) ?_
          refine lv_isub hx hb dX6_addValue_110 ?_
          refine lv_iload_n hx hb dX6_addValue_111 rfl (lv_at hl 1 rfl) ?_
          refine swT_11 h.1 hC hw dX6_addValue_112 (fun H locs g_13 eg_13 hw => ?_)
          have h := h.2 g_13 eg_13
          refine lv_goto (tgt := 131) hx hb dX6_addValue_113 (by decide) ?_
          refine lv_aload_n hx hb dX6_addValue_131 rfl (lv_at hl 2 rfl) ?_
          refine gt (v := .ref (ad 12)) kfX6_23 8 hC hw rfl rfl dX6_addValue_132 ?_
          refine lv_aload_n hx hb dX6_addValue_135 rfl (lv_at hl 2 rfl) ?_
          refine gt (v := .int (g_13 3 0 1)) kfX6_63 8 hC hw rfl rfl dX6_addValue_136 ?_
          refine lv_iconst (v := (1 : Int32)) hx hb dX6_addValue_139 (by decide) ?_
          refine lv_isub hx hb dX6_addValue_140 ?_
          refine lv_iload_n hx hb dX6_addValue_141 rfl (lv_at hl 1 rfl) ?_
          refine swT_12 h.1 hC hw dX6_addValue_142 (fun H locs g_14 eg_14 hw => ?_)
          have h := h.2 g_14 eg_14
          exact rtV (wf := (fun u : SG => (wT ad cI cC cZ cJ N u))) g_14 hC hr hlk hw h dX6_addValue_143
      · have h := h.2 c_2
        exact rtV (wf := (fun u : SG => (wT ad cI cC cZ cJ N u))) G hC hr hlk hw h dX6_addValue_71
  have w_4 : ∀ (n : Nat) (x2 : Int32) (x3 : Int32) (G : SG) (H : Heap) (locs : List Loc) (ls : Array Slot), V_X6_addValue_4 N post n x2 x3 G → Wd D (ty4 cI cC cZ cJ) A s (wT ad cI cC cZ cJ N G) H locs → lv_has ls 5 [(0, .ref (ad 8)), (2, .int x2), (3, .int x3)] → W p l e RM_X6_addValue s m args below meth c H locs 0 0 (QV below D (ty4 cI cC cZ cJ) A args s (fun u : SG => (wT ad cI cC cZ cJ N u)) post) (F0 m 4 ls []) := by
    intro n
    induction n with
    | zero =>
      intro x2 x3 G H locs ls h
      exact False.elim h
    | succ n ih =>
      intro x2 x3 G H locs ls h hw hl
      rw [V_X6_addValue_4] at h
      refine lv_iload_n hx hb dX6_addValue_4 rfl (lv_at hl 2 rfl) ?_
      refine lv_bipush (v := (12 : Int32)) hx hb dX6_addValue_5 (by decide) ?_
      refine lv_icmp_ge (tgt := 55) hx hb dX6_addValue_7 (by decide) (fun c_15 => ?_) (fun c_15 => ?_)
      · have h := h.1 c_15
        exact w_55 n x2 G _ _ _ h hw (lv_sub hl [0, 1] rfl)
      · have h := h.2 c_15
        refine lv_aload_n hx hb dX6_addValue_10 rfl (lv_at hl 0 rfl) ?_
        refine cVIwe kmX6_108 hC hw hE (m_X6_isQuoteOpen l D cI cC cZ cJ ad N ea  G h) rfl rfl ⟨by decide, by decide⟩ (recvW hw rfl 8 rfl) rfl hl.1 (Nat.le_of_ble_eq_true rfl) dX6_addValue_11 ⟨Nat.zero_le _, Nat.zero_le _⟩ rfl ?_
        intro r_16 g_17 H locs h hw
        refine lv_if_eq (tgt := 55) hx hb dX6_addValue_14 (by decide) (fun c_18 => ?_) (fun c_18 => ?_)
        · have h := h.1 c_18
          exact w_55 n x2 g_17 _ _ _ h hw (lv_sub hl [0, 1] rfl)
        · have h := h.2 c_18
          refine lv_aload_n hx hb dX6_addValue_17 rfl (lv_at hl 0 rfl) ?_
          refine lv_dup hx hb dX6_addValue_18 rfl ?_
          refine gt (v := .int (g_17 3 0 1)) kfX6_63 8 hC hw rfl rfl dX6_addValue_19 ?_
          refine lv_iconst (v := (1 : Int32)) hx hb dX6_addValue_22 (by decide) ?_
          refine lv_isub hx hb dX6_addValue_23 ?_
          refine pwT_8_7 kpX6_63 hC hw dX6_addValue_24 (fun H locs g_19 eg_19 hw => ?_)
          have h := h g_19 eg_19
          refine lv_aload_n hx hb dX6_addValue_27 rfl (lv_at hl 0 rfl) ?_
          refine gt (v := .ref (ad 6)) kfX6_32 8 hC hw rfl rfl dX6_addValue_28 ?_
          refine lv_iconst (v := (3 : Int32)) hx hb dX6_addValue_31 (by decide) ?_
          refine lv_iconst (v := (2 : Int32)) hx hb dX6_addValue_32 (by decide) ?_
          refine cSI ksX6_98 hC (m_X10_of l (3 : Int32) (2 : Int32) h) rfl rfl ⟨by decide, by decide⟩ rfl hl.1 (Nat.le_of_ble_eq_true rfl) dX6_addValue_33 ⟨Nat.zero_le _, Nat.zero_le _⟩ rfl ?_
          intro r_20 h
          refine lv_aload_n hx hb dX6_addValue_36 rfl (lv_at hl 0 rfl) ?_
          refine gt (v := .ref (ad 6)) kfX6_32 8 hC hw rfl rfl dX6_addValue_37 ?_
          refine lv_iload_n hx hb dX6_addValue_40 rfl (lv_at hl 1 rfl) ?_
          refine lv_iconst (v := (1 : Int32)) hx hb dX6_addValue_41 (by decide) ?_
          refine eI_wT_wHp_6 kmX6_114 hC hw (m_X2_readCell l D cI cC cZ cJ (fun j => ad (6 + j)) N x2 (1 : Int32) (g_19 2) h) rfl rfl ⟨by decide, by decide⟩ rfl hl.1 (Nat.le_of_ble_eq_true rfl) dX6_addValue_42 ⟨Nat.zero_le _, Nat.zero_le _⟩ rfl ?_
          intro r_21 u_23 g_22 H locs eg_22 h hw
          have h := h g_22 eg_22
          refine eI_wT_wHp_6 kmX6_114 hC hw (m_X2_readCell l D cI cC cZ cJ (fun j => ad (6 + j)) N r_20 r_21 (g_22 2) h) rfl rfl ⟨by decide, by decide⟩ rfl hl.1 (Nat.le_of_ble_eq_true rfl) dX6_addValue_45 ⟨Nat.zero_le _, Nat.zero_le _⟩ rfl ?_
          intro r_24 u_26 g_25 H locs eg_25 h hw
          have h := h g_25 eg_25
          refine lv_istore_n (lv' := [(2, .int r_24), (0, .ref (ad 8)), (3, .int x3)]) hx hb dX6_addValue_48 rfl hl (by decide) rfl (fun ls hl => ?_)
          obtain ⟨x_27, ex_27⟩ : ∃ y : Int32, y = x3 + (1 : Int32) := ⟨_, rfl⟩
          have h := h x_27 ex_27
          refine lv_iinc (v := x_27) (lv' := [(3, .int x_27), (2, .int r_24), (0, .ref (ad 8))]) hx hb dX6_addValue_49 hl (k := 2) rfl (by rw [ex_27]; rfl) (by decide) rfl (fun ls hl => ?_)
          refine lv_goto (tgt := 4) hx hb dX6_addValue_52 (by decide) ?_
          exact ih r_24 x_27 g_25 _ _ _ h hw (lv_sub hl [2, 1, 0] rfl)
  unfold V_X6_addValue at h
  refine lv_iload_n hx hb dX6_addValue_0 rfl (lv_at hl 1 rfl) ?_
  refine lv_istore_n (lv' := [(2, .int x1), (0, .ref (ad 8)), (1, .int x1)]) hx hb dX6_addValue_1 rfl hl (by decide) rfl (fun ls hl => ?_)
  refine lv_iconst (v := (0 : Int32)) hx hb dX6_addValue_2 (by decide) ?_
  refine lv_topi (fun x_28 ex_28 => ?_)
  have h := h x_28 ex_28
  refine lv_istore_n (lv' := [(3, .int x_28), (2, .int x1), (0, .ref (ad 8)), (1, .int x1)]) hx hb dX6_addValue_3 rfl hl (by decide) rfl (fun ls hl => ?_)
  exact w_4 n x1 x_28 G _ _ _ h hw (lv_sub hl [2, 1, 0] rfl)
def V_X6_endAtom (N : Nat) (n : Nat) (G : SG) (post : Int32 → SG → Prop) : Prop := ((¬ (G 3 0 0) = 0 → V_X6_atomWord N n  G (fun r_2 g_3 => ∀ g_4 : SG, g_4 = uo g_3 3 (us (g_3 3) 0 (0 : Int32)) → ((¬ r_2 = 0 → V_X6_addValue N n r_2 g_4 (fun g_7 => post (1 : Int32) g_7)) ∧ (r_2 = 0 → post (0 : Int32) g_4)))) ∧ ((G 3 0 0) = 0 → post (1 : Int32) G))
abbrev RM_X6_endAtom : Room := { frames := 9, cells := 0, slots := 0, locals := 198 }
set_option maxHeartbeats 4000000 in
set_option maxRecDepth 100000 in
theorem m_X6_endAtom (l : Launch) (D : va_G) (cI cC cZ cJ : ClassId) (ad : Nat → Nat) (N : Nat) (ea : Nat → Nat → Nat) (n : Nat) (G : SG) {post : Int32 → SG → Prop} (h : V_X6_endAtom N n G post) : MetIE ea l yX6_endAtom cX6_endAtom 2 .boolean RM_X6_endAtom D (ty4 cI cC cZ cJ) (wT ad cI cC cZ cJ N G) [.ref (ad 8)] (fun u : SG => (wT ad cI cC cZ cJ N u)) post := by
  refine mkIE (by decide) (Nat.le_of_ble_eq_true rfl) ?_
  intro p e s m args below meth c A ls hC hr hlk hw hE hl
  have hx := hC.1
  have hb := hC.2.1
  have hl : lv_has ls 2 [(0, .ref (ad 8))] := hl
  unfold V_X6_endAtom at h
  refine lv_aload_n hx hb dX6_endAtom_0 rfl (lv_at hl 0 rfl) ?_
  refine gt (v := .int (G 3 0 0)) kfX6_69 8 hC hw rfl rfl dX6_endAtom_1 ?_
  refine lv_if_ne (tgt := 9) hx hb dX6_endAtom_4 (by decide) (fun c_1 => ?_) (fun c_1 => ?_)
  · have h := h.1 c_1
    refine lv_aload_n hx hb dX6_endAtom_9 rfl (lv_at hl 0 rfl) ?_
    refine cVIwe kmX6_80 hC hw hE (m_X6_atomWord l D cI cC cZ cJ ad N ea n  G h) rfl rfl ⟨by decide, by decide⟩ (recvW hw rfl 8 rfl) rfl hl.1 (Nat.le_of_ble_eq_true rfl) dX6_endAtom_10 ⟨Nat.zero_le _, Nat.zero_le _⟩ rfl ?_
    intro r_2 g_3 H locs h hw
    refine lv_istore_n (lv' := [(1, .int r_2), (0, .ref (ad 8))]) hx hb dX6_endAtom_13 rfl hl (by decide) rfl (fun ls hl => ?_)
    refine lv_aload_n hx hb dX6_endAtom_14 rfl (lv_at hl 1 rfl) ?_
    refine lv_iconst (v := (0 : Int32)) hx hb dX6_endAtom_15 (by decide) ?_
    refine pwT_8_3 kpX6_69 hC hw dX6_endAtom_16 (fun H locs g_4 eg_4 hw => ?_)
    have h := h g_4 eg_4
    refine lv_iload_n hx hb dX6_endAtom_19 rfl (lv_at hl 0 rfl) ?_
    refine lv_if_ne (tgt := 25) hx hb dX6_endAtom_20 (by decide) (fun c_5 => ?_) (fun c_5 => ?_)
    · have h := h.1 c_5
      refine lv_aload_n hx hb dX6_endAtom_25 rfl (lv_at hl 1 rfl) ?_
      refine lv_iload_n hx hb dX6_endAtom_26 rfl (lv_at hl 0 rfl) ?_
      refine cVVwe kmX6_83 hC hw hE (m_X6_addValue l D cI cC cZ cJ ad N ea n r_2 g_4 h) rfl rfl ⟨by decide, by decide⟩ (recvW hw rfl 8 rfl) rfl hl.1 (Nat.le_of_ble_eq_true rfl) dX6_endAtom_27 ⟨Nat.zero_le _, Nat.zero_le _⟩ rfl ?_
      intro g_7 H locs h hw
      refine lv_iconst (v := (1 : Int32)) hx hb dX6_endAtom_30 (by decide) ?_
      exact rtI (wf := (fun u : SG => (wT ad cI cC cZ cJ N u))) g_7 hC hr hlk hw (by decide) h dX6_endAtom_31
    · have h := h.2 c_5
      refine lv_iconst (v := (0 : Int32)) hx hb dX6_endAtom_23 (by decide) ?_
      exact rtI (wf := (fun u : SG => (wT ad cI cC cZ cJ N u))) g_4 hC hr hlk hw (by decide) h dX6_endAtom_24
  · have h := h.2 c_1
    refine lv_iconst (v := (1 : Int32)) hx hb dX6_endAtom_7 (by decide) ?_
    exact rtI (wf := (fun u : SG => (wT ad cI cC cZ cJ N u))) G hC hr hlk hw (by decide) h dX6_endAtom_8
def V_X6_drop (N : Nat) (G : SG) (post : Int32 → SG → Prop) : Prop := ∀ x_1 : Int32, x_1 = (G 3 0 1) → ∀ g_2 : SG, g_2 = uo G 3 (us (G 3) 1 (0 : Int32)) → ∀ g_3 : SG, g_3 = uo g_2 3 (us (g_2 3) 0 (0 : Int32)) → V_X2_dropRead N  (g_3 2) (fun u_6 => ∀ g_5 : SG, g_5 = uo g_3 2 u_6 → post x_1 g_5)
abbrev RM_X6_drop : Room := { frames := 1, cells := 0, slots := 0, locals := 20 }
set_option maxHeartbeats 4000000 in
set_option maxRecDepth 100000 in
theorem m_X6_drop (l : Launch) (D : va_G) (cI cC cZ cJ : ClassId) (ad : Nat → Nat) (N : Nat) (ea : Nat → Nat → Nat) (G : SG) {post : Int32 → SG → Prop} (h : V_X6_drop N G post) : MetIE ea l yX6_drop cX6_drop 2 .int RM_X6_drop D (ty4 cI cC cZ cJ) (wT ad cI cC cZ cJ N G) [.ref (ad 8)] (fun u : SG => (wT ad cI cC cZ cJ N u)) post := by
  refine mkIE (by decide) (Nat.le_of_ble_eq_true rfl) ?_
  intro p e s m args below meth c A ls hC hr hlk hw hE hl
  have hx := hC.1
  have hb := hC.2.1
  have hl : lv_has ls 2 [(0, .ref (ad 8))] := hl
  unfold V_X6_drop at h
  refine lv_aload_n hx hb dX6_drop_0 rfl (lv_at hl 0 rfl) ?_
  refine gt (v := .int (G 3 0 1)) kfX6_63 8 hC hw rfl rfl dX6_drop_1 ?_
  refine lv_topi (fun x_1 ex_1 => ?_)
  have h := h x_1 ex_1
  refine lv_istore_n (lv' := [(1, .int x_1), (0, .ref (ad 8))]) hx hb dX6_drop_4 rfl hl (by decide) rfl (fun ls hl => ?_)
  refine lv_aload_n hx hb dX6_drop_5 rfl (lv_at hl 1 rfl) ?_
  refine lv_iconst (v := (0 : Int32)) hx hb dX6_drop_6 (by decide) ?_
  refine pwT_8_7 kpX6_63 hC hw dX6_drop_7 (fun H locs g_2 eg_2 hw => ?_)
  have h := h g_2 eg_2
  refine lv_aload_n hx hb dX6_drop_10 rfl (lv_at hl 1 rfl) ?_
  refine lv_iconst (v := (0 : Int32)) hx hb dX6_drop_11 (by decide) ?_
  refine pwT_8_3 kpX6_69 hC hw dX6_drop_12 (fun H locs g_3 eg_3 hw => ?_)
  have h := h g_3 eg_3
  refine lv_aload_n hx hb dX6_drop_15 rfl (lv_at hl 1 rfl) ?_
  refine gt (v := .ref (ad 6)) kfX6_32 8 hC hw rfl rfl dX6_drop_16 ?_
  refine eV_wT_wHp_6 kmX6_72 hC hw (m_X2_dropRead l D cI cC cZ cJ (fun j => ad (6 + j)) N  (g_3 2) h) rfl rfl ⟨by decide, by decide⟩ rfl hl.1 (Nat.le_of_ble_eq_true rfl) dX6_drop_19 ⟨Nat.zero_le _, Nat.zero_le _⟩ rfl ?_
  intro u_6 g_5 H locs eg_5 h hw
  have h := h g_5 eg_5
  refine lv_iload_n hx hb dX6_drop_22 rfl (lv_at hl 0 rfl) ?_
  exact rtI (wf := (fun u : SG => (wT ad cI cC cZ cJ N u))) g_5 hC hr hlk hw rfl h dX6_drop_23
def V_X6_refuse (N : Nat) (G : SG) (post : Int32 → SG → Prop) : Prop := V_X6_drop N  G (fun r_1 g_2 => post (2 : Int32) g_2)
abbrev RM_X6_refuse : Room := { frames := 2, cells := 0, slots := 0, locals := 41 }
set_option maxHeartbeats 4000000 in
set_option maxRecDepth 100000 in
theorem m_X6_refuse (l : Launch) (D : va_G) (cI cC cZ cJ : ClassId) (ad : Nat → Nat) (N : Nat) (ea : Nat → Nat → Nat) (G : SG) {post : Int32 → SG → Prop} (h : V_X6_refuse N G post) : MetIE ea l yX6_refuse cX6_refuse 1 .int RM_X6_refuse D (ty4 cI cC cZ cJ) (wT ad cI cC cZ cJ N G) [.ref (ad 8)] (fun u : SG => (wT ad cI cC cZ cJ N u)) post := by
  refine mkIE (by decide) (Nat.le_of_ble_eq_true rfl) ?_
  intro p e s m args below meth c A ls hC hr hlk hw hE hl
  have hx := hC.1
  have hb := hC.2.1
  have hl : lv_has ls 1 [(0, .ref (ad 8))] := hl
  unfold V_X6_refuse at h
  refine lv_aload_n hx hb dX6_refuse_0 rfl (lv_at hl 0 rfl) ?_
  refine cVIwe kmX6_77 hC hw hE (m_X6_drop l D cI cC cZ cJ ad N ea  G h) rfl rfl ⟨by decide, by decide⟩ (recvW hw rfl 8 rfl) rfl hl.1 (Nat.le_of_ble_eq_true rfl) dX6_refuse_1 ⟨Nat.zero_le _, Nat.zero_le _⟩ rfl ?_
  intro r_1 g_2 H locs h hw
  refine lv_pop hx hb dX6_refuse_4 rfl ?_
  refine lv_iconst (v := (2 : Int32)) hx hb dX6_refuse_5 (by decide) ?_
  exact rtI (wf := (fun u : SG => (wT ad cI cC cZ cJ N u))) g_2 hC hr hlk hw rfl h dX6_refuse_6
def V_X6_openOne (N : Nat) (x1 : Int32) (G : SG) (post : Int32 → SG → Prop) : Prop := (((G 3 0 1) < 0 → V_X6_refuse N  G (fun r_2 g_3 => post r_2 g_3)) ∧ (¬ (G 3 0 1) < 0 → (((G 3 0 1) < (12 : Int32) → (vp_in (G 3 0 1) 12 ∧ ∀ g_5 : SG, g_5 = uo G 3 (up (G 3) 2 (G 3 0 1).toNatClampNeg (vp_nar .boolean x1)) → (vp_in (g_5 3 0 1) 12 ∧ ∀ g_6 : SG, g_6 = uo g_5 3 (up (g_5 3) 3 (g_5 3 0 1).toNatClampNeg (1 : Int32)) → (vp_in (g_6 3 0 1) 12 ∧ ∀ g_7 : SG, g_7 = uo g_6 3 (up (g_6 3) 4 (g_6 3 0 1).toNatClampNeg (1 : Int32)) → ∀ g_8 : SG, g_8 = uo g_7 3 (us (g_7 3) 1 ((g_7 3 0 1) + (1 : Int32))) → post (0 : Int32) g_8)))) ∧ (¬ (G 3 0 1) < (12 : Int32) → V_X6_refuse N  G (fun r_9 g_10 => post r_9 g_10)))))
abbrev RM_X6_openOne : Room := { frames := 3, cells := 0, slots := 0, locals := 61 }
set_option maxHeartbeats 4000000 in
set_option maxRecDepth 100000 in
theorem m_X6_openOne (l : Launch) (D : va_G) (cI cC cZ cJ : ClassId) (ad : Nat → Nat) (N : Nat) (ea : Nat → Nat → Nat) (x1 : Int32) (G : SG) {post : Int32 → SG → Prop} (h : V_X6_openOne N x1 G post) : MetIE ea l yX6_openOne cX6_openOne 2 .int RM_X6_openOne D (ty4 cI cC cZ cJ) (wT ad cI cC cZ cJ N G) [.ref (ad 8), .int x1] (fun u : SG => (wT ad cI cC cZ cJ N u)) post := by
  refine mkIE (by decide) (Nat.le_of_ble_eq_true rfl) ?_
  intro p e s m args below meth c A ls hC hr hlk hw hE hl
  have hx := hC.1
  have hb := hC.2.1
  have hl : lv_has ls 2 [(0, .ref (ad 8)), (1, .int x1)] := hl
  unfold V_X6_openOne at h
  refine lv_aload_n hx hb dX6_openOne_0 rfl (lv_at hl 0 rfl) ?_
  refine gt (v := .int (G 3 0 1)) kfX6_63 8 hC hw rfl rfl dX6_openOne_1 ?_
  refine lv_if_lt (tgt := 16) hx hb dX6_openOne_4 (by decide) (fun c_1 => ?_) (fun c_1 => ?_)
  · have h := h.1 c_1
    refine lv_aload_n hx hb dX6_openOne_16 rfl (lv_at hl 0 rfl) ?_
    refine cVIwe kmX6_55 hC hw hE (m_X6_refuse l D cI cC cZ cJ ad N ea  G h) rfl rfl ⟨by decide, by decide⟩ (recvW hw rfl 8 rfl) rfl hl.1 (Nat.le_of_ble_eq_true rfl) dX6_openOne_17 ⟨Nat.zero_le _, Nat.zero_le _⟩ rfl ?_
    intro r_2 g_3 H locs h hw
    exact rtI (wf := (fun u : SG => (wT ad cI cC cZ cJ N u))) g_3 hC hr hlk hw rfl h dX6_openOne_20
  · have h := h.2 c_1
    refine lv_aload_n hx hb dX6_openOne_7 rfl (lv_at hl 0 rfl) ?_
    refine gt (v := .int (G 3 0 1)) kfX6_63 8 hC hw rfl rfl dX6_openOne_8 ?_
    refine lv_bipush (v := (12 : Int32)) hx hb dX6_openOne_11 (by decide) ?_
    refine lv_icmp_lt (tgt := 21) hx hb dX6_openOne_13 (by decide) (fun c_4 => ?_) (fun c_4 => ?_)
    · have h := h.1 c_4
      refine lv_aload_n hx hb dX6_openOne_21 rfl (lv_at hl 0 rfl) ?_
      refine gt (v := .ref (ad 10)) kfX6_15 8 hC hw rfl rfl dX6_openOne_22 ?_
      refine lv_aload_n hx hb dX6_openOne_25 rfl (lv_at hl 0 rfl) ?_
      refine gt (v := .int (G 3 0 1)) kfX6_63 8 hC hw rfl rfl dX6_openOne_26 ?_
      refine lv_iload_n hx hb dX6_openOne_29 rfl (lv_at hl 1 rfl) ?_
      refine swT_10 h.1 hC hw dX6_openOne_30 (fun H locs g_5 eg_5 hw => ?_)
      have h := h.2 g_5 eg_5
      refine lv_aload_n hx hb dX6_openOne_31 rfl (lv_at hl 0 rfl) ?_
      refine gt (v := .ref (ad 11)) kfX6_19 8 hC hw rfl rfl dX6_openOne_32 ?_
      refine lv_aload_n hx hb dX6_openOne_35 rfl (lv_at hl 0 rfl) ?_
      refine gt (v := .int (g_5 3 0 1)) kfX6_63 8 hC hw rfl rfl dX6_openOne_36 ?_
      refine lv_iconst (v := (1 : Int32)) hx hb dX6_openOne_39 (by decide) ?_
      refine swT_11 h.1 hC hw dX6_openOne_40 (fun H locs g_6 eg_6 hw => ?_)
      have h := h.2 g_6 eg_6
      refine lv_aload_n hx hb dX6_openOne_41 rfl (lv_at hl 0 rfl) ?_
      refine gt (v := .ref (ad 12)) kfX6_23 8 hC hw rfl rfl dX6_openOne_42 ?_
      refine lv_aload_n hx hb dX6_openOne_45 rfl (lv_at hl 0 rfl) ?_
      refine gt (v := .int (g_6 3 0 1)) kfX6_63 8 hC hw rfl rfl dX6_openOne_46 ?_
      refine lv_iconst (v := (1 : Int32)) hx hb dX6_openOne_49 (by decide) ?_
      refine swT_12 h.1 hC hw dX6_openOne_50 (fun H locs g_7 eg_7 hw => ?_)
      have h := h.2 g_7 eg_7
      refine lv_aload_n hx hb dX6_openOne_51 rfl (lv_at hl 0 rfl) ?_
      refine lv_dup hx hb dX6_openOne_52 rfl ?_
      refine gt (v := .int (g_7 3 0 1)) kfX6_63 8 hC hw rfl rfl dX6_openOne_53 ?_
      refine lv_iconst (v := (1 : Int32)) hx hb dX6_openOne_56 (by decide) ?_
      refine lv_iadd hx hb dX6_openOne_57 ?_
      refine pwT_8_7 kpX6_63 hC hw dX6_openOne_58 (fun H locs g_8 eg_8 hw => ?_)
      have h := h g_8 eg_8
      refine lv_iconst (v := (0 : Int32)) hx hb dX6_openOne_61 (by decide) ?_
      exact rtI (wf := (fun u : SG => (wT ad cI cC cZ cJ N u))) g_8 hC hr hlk hw rfl h dX6_openOne_62
    · have h := h.2 c_4
      refine lv_aload_n hx hb dX6_openOne_16 rfl (lv_at hl 0 rfl) ?_
      refine cVIwe kmX6_55 hC hw hE (m_X6_refuse l D cI cC cZ cJ ad N ea  G h) rfl rfl ⟨by decide, by decide⟩ (recvW hw rfl 8 rfl) rfl hl.1 (Nat.le_of_ble_eq_true rfl) dX6_openOne_17 ⟨Nat.zero_le _, Nat.zero_le _⟩ rfl ?_
      intro r_9 g_10 H locs h hw
      exact rtI (wf := (fun u : SG => (wT ad cI cC cZ cJ N u))) g_10 hC hr hlk hw rfl h dX6_openOne_20
def V_X6_close (N : Nat) (n : Nat) (G : SG) (post : Int32 → SG → Prop) : Prop := (((G 3 0 1) ≤ 0 → V_X6_refuse N  G (fun r_2 g_3 => post r_2 g_3)) ∧ (¬ (G 3 0 1) ≤ 0 → (((12 : Int32) < (G 3 0 1) → V_X6_refuse N  G (fun r_5 g_6 => post r_5 g_6)) ∧ (¬ (12 : Int32) < (G 3 0 1) → V_X6_isQuoteOpen N  G (fun r_7 g_8 => ((r_7 = 0 → ∀ g_10 : SG, g_10 = uo g_8 3 (us (g_8 3) 1 ((g_8 3 0 1) - (1 : Int32))) → (vp_in (g_10 3 0 1) 12 ∧ ∀ x_11 : Int32, x_11 = (g_10 3 3 (g_10 3 0 1).toNatClampNeg) → (((g_10 3 0 1) ≤ 0 → ∀ g_13 : SG, g_13 = uo g_10 3 (us (g_10 3) 2 x_11) → V_X2_keepRead N  (g_13 2) (fun u_16 => ∀ g_15 : SG, g_15 = uo g_13 2 u_16 → post (1 : Int32) g_15)) ∧ (¬ (g_10 3 0 1) ≤ 0 → V_X6_addValue N n x_11 g_10 (fun g_18 => post (0 : Int32) g_18))))) ∧ (¬ r_7 = 0 → V_X6_refuse N  g_8 (fun r_19 g_20 => post r_19 g_20))))))))
abbrev RM_X6_close : Room := { frames := 3, cells := 0, slots := 0, locals := 69 }
set_option maxHeartbeats 4000000 in
set_option maxRecDepth 100000 in
theorem m_X6_close (l : Launch) (D : va_G) (cI cC cZ cJ : ClassId) (ad : Nat → Nat) (N : Nat) (ea : Nat → Nat → Nat) (n : Nat) (G : SG) {post : Int32 → SG → Prop} (h : V_X6_close N n G post) : MetIE ea l yX6_close cX6_close 2 .int RM_X6_close D (ty4 cI cC cZ cJ) (wT ad cI cC cZ cJ N G) [.ref (ad 8)] (fun u : SG => (wT ad cI cC cZ cJ N u)) post := by
  refine mkIE (by decide) (Nat.le_of_ble_eq_true rfl) ?_
  intro p e s m args below meth c A ls hC hr hlk hw hE hl
  have hx := hC.1
  have hb := hC.2.1
  have hl : lv_has ls 2 [(0, .ref (ad 8))] := hl
  unfold V_X6_close at h
  refine lv_aload_n hx hb dX6_close_0 rfl (lv_at hl 0 rfl) ?_
  refine gt (v := .int (G 3 0 1)) kfX6_63 8 hC hw rfl rfl dX6_close_1 ?_
  refine lv_if_le (tgt := 23) hx hb dX6_close_4 (by decide) (fun c_1 => ?_) (fun c_1 => ?_)
  · have h := h.1 c_1
    refine lv_aload_n hx hb dX6_close_23 rfl (lv_at hl 0 rfl) ?_
    refine cVIwe kmX6_55 hC hw hE (m_X6_refuse l D cI cC cZ cJ ad N ea  G h) rfl rfl ⟨by decide, by decide⟩ (recvW hw rfl 8 rfl) rfl hl.1 (Nat.le_of_ble_eq_true rfl) dX6_close_24 ⟨Nat.zero_le _, Nat.zero_le _⟩ rfl ?_
    intro r_2 g_3 H locs h hw
    exact rtI (wf := (fun u : SG => (wT ad cI cC cZ cJ N u))) g_3 hC hr hlk hw rfl h dX6_close_27
  · have h := h.2 c_1
    refine lv_aload_n hx hb dX6_close_7 rfl (lv_at hl 0 rfl) ?_
    refine gt (v := .int (G 3 0 1)) kfX6_63 8 hC hw rfl rfl dX6_close_8 ?_
    refine lv_bipush (v := (12 : Int32)) hx hb dX6_close_11 (by decide) ?_
    refine lv_icmp_gt (tgt := 23) hx hb dX6_close_13 (by decide) (fun c_4 => ?_) (fun c_4 => ?_)
    · have h := h.1 c_4
      refine lv_aload_n hx hb dX6_close_23 rfl (lv_at hl 0 rfl) ?_
      refine cVIwe kmX6_55 hC hw hE (m_X6_refuse l D cI cC cZ cJ ad N ea  G h) rfl rfl ⟨by decide, by decide⟩ (recvW hw rfl 8 rfl) rfl hl.1 (Nat.le_of_ble_eq_true rfl) dX6_close_24 ⟨Nat.zero_le _, Nat.zero_le _⟩ rfl ?_
      intro r_5 g_6 H locs h hw
      exact rtI (wf := (fun u : SG => (wT ad cI cC cZ cJ N u))) g_6 hC hr hlk hw rfl h dX6_close_27
    · have h := h.2 c_4
      refine lv_aload_n hx hb dX6_close_16 rfl (lv_at hl 0 rfl) ?_
      refine cVIwe kmX6_108 hC hw hE (m_X6_isQuoteOpen l D cI cC cZ cJ ad N ea  G h) rfl rfl ⟨by decide, by decide⟩ (recvW hw rfl 8 rfl) rfl hl.1 (Nat.le_of_ble_eq_true rfl) dX6_close_17 ⟨Nat.zero_le _, Nat.zero_le _⟩ rfl ?_
      intro r_7 g_8 H locs h hw
      refine lv_if_eq (tgt := 28) hx hb dX6_close_20 (by decide) (fun c_9 => ?_) (fun c_9 => ?_)
      · have h := h.1 c_9
        refine lv_aload_n hx hb dX6_close_28 rfl (lv_at hl 0 rfl) ?_
        refine lv_dup hx hb dX6_close_29 rfl ?_
        refine gt (v := .int (g_8 3 0 1)) kfX6_63 8 hC hw rfl rfl dX6_close_30 ?_
        refine lv_iconst (v := (1 : Int32)) hx hb dX6_close_33 (by decide) ?_
        refine lv_isub hx hb dX6_close_34 ?_
        refine pwT_8_7 kpX6_63 hC hw dX6_close_35 (fun H locs g_10 eg_10 hw => ?_)
        have h := h g_10 eg_10
        refine lv_aload_n hx hb dX6_close_38 rfl (lv_at hl 0 rfl) ?_
        refine gt (v := .ref (ad 11)) kfX6_19 8 hC hw rfl rfl dX6_close_39 ?_
        refine lv_aload_n hx hb dX6_close_42 rfl (lv_at hl 0 rfl) ?_
        refine gt (v := .int (g_10 3 0 1)) kfX6_63 8 hC hw rfl rfl dX6_close_43 ?_
        refine ldI 11 0 hC hw rfl rfl h.1 dX6_close_46 ?_
        have h := h.2
        refine lv_topi (fun x_11 ex_11 => ?_)
        have h := h x_11 ex_11
        refine lv_istore_n (lv' := [(1, .int x_11), (0, .ref (ad 8))]) hx hb dX6_close_47 rfl hl (by decide) rfl (fun ls hl => ?_)
        refine lv_aload_n hx hb dX6_close_48 rfl (lv_at hl 1 rfl) ?_
        refine gt (v := .int (g_10 3 0 1)) kfX6_63 8 hC hw rfl rfl dX6_close_49 ?_
        refine lv_if_le (tgt := 62) hx hb dX6_close_52 (by decide) (fun c_12 => ?_) (fun c_12 => ?_)
        · have h := h.1 c_12
          refine lv_aload_n hx hb dX6_close_62 rfl (lv_at hl 1 rfl) ?_
          refine lv_iload_n hx hb dX6_close_63 rfl (lv_at hl 0 rfl) ?_
          refine pwT_8_8 kpX6_28 hC hw dX6_close_64 (fun H locs g_13 eg_13 hw => ?_)
          have h := h g_13 eg_13
          refine lv_aload_n hx hb dX6_close_67 rfl (lv_at hl 1 rfl) ?_
          refine gt (v := .ref (ad 6)) kfX6_32 8 hC hw rfl rfl dX6_close_68 ?_
          refine eV_wT_wHp_6 kmX6_111 hC hw (m_X2_keepRead l D cI cC cZ cJ (fun j => ad (6 + j)) N  (g_13 2) h) rfl rfl ⟨by decide, by decide⟩ rfl hl.1 (Nat.le_of_ble_eq_true rfl) dX6_close_71 ⟨Nat.zero_le _, Nat.zero_le _⟩ rfl ?_
          intro u_16 g_15 H locs eg_15 h hw
          have h := h g_15 eg_15
          refine lv_iconst (v := (1 : Int32)) hx hb dX6_close_74 (by decide) ?_
          exact rtI (wf := (fun u : SG => (wT ad cI cC cZ cJ N u))) g_15 hC hr hlk hw rfl h dX6_close_75
        · have h := h.2 c_12
          refine lv_aload_n hx hb dX6_close_55 rfl (lv_at hl 1 rfl) ?_
          refine lv_iload_n hx hb dX6_close_56 rfl (lv_at hl 0 rfl) ?_
          refine cVVwe kmX6_83 hC hw hE (m_X6_addValue l D cI cC cZ cJ ad N ea n x_11 g_10 h) rfl rfl ⟨by decide, by decide⟩ (recvW hw rfl 8 rfl) rfl hl.1 (Nat.le_of_ble_eq_true rfl) dX6_close_57 ⟨Nat.zero_le _, Nat.zero_le _⟩ rfl ?_
          intro g_18 H locs h hw
          refine lv_iconst (v := (0 : Int32)) hx hb dX6_close_60 (by decide) ?_
          exact rtI (wf := (fun u : SG => (wT ad cI cC cZ cJ N u))) g_18 hC hr hlk hw rfl h dX6_close_61
      · have h := h.2 c_9
        refine lv_aload_n hx hb dX6_close_23 rfl (lv_at hl 0 rfl) ?_
        refine cVIwe kmX6_55 hC hw hE (m_X6_refuse l D cI cC cZ cJ ad N ea  g_8 h) rfl rfl ⟨by decide, by decide⟩ (recvW hw rfl 8 rfl) rfl hl.1 (Nat.le_of_ble_eq_true rfl) dX6_close_24 ⟨Nat.zero_le _, Nat.zero_le _⟩ rfl ?_
        intro r_19 g_20 H locs h hw
        exact rtI (wf := (fun u : SG => (wT ad cI cC cZ cJ N u))) g_20 hC hr hlk hw rfl h dX6_close_27
def V_X6_read (N : Nat) (n : Nat) (x1 : Int32) (G : SG) (post : Int32 → SG → Prop) : Prop := V_X6_isOfAtom x1 (fun r_1 => ((r_1 = 0 → V_X6_endAtom N n  G (fun r_3 g_4 => ((¬ r_3 = 0 → ((x1 = (39 : Int32) → ((¬ (g_4 3 0 1) = 0 → V_X6_openOne N (1 : Int32) g_4 (fun r_8 g_9 => post r_8 g_9)) ∧ ((g_4 3 0 1) = 0 → post (0 : Int32) g_4))) ∧ (x1 = (40 : Int32) → V_X6_openOne N (0 : Int32) g_4 (fun r_10 g_11 => post r_10 g_11)) ∧ (x1 = (41 : Int32) → V_X6_close N n  g_4 (fun r_12 g_13 => post r_12 g_13)) ∧ (¬ x1 = (39 : Int32) → ¬ x1 = (40 : Int32) → ¬ x1 = (41 : Int32) → post (0 : Int32) g_4))) ∧ (r_3 = 0 → V_X6_refuse N  g_4 (fun r_14 g_15 => post r_14 g_15))))) ∧ (¬ r_1 = 0 → V_X6_addLetter N x1 G (fun g_17 => post (0 : Int32) g_17))))
abbrev RM_X6_read : Room := { frames := 10, cells := 0, slots := 0, locals := 219 }
set_option maxHeartbeats 4000000 in
set_option maxRecDepth 100000 in
theorem m_X6_read (l : Launch) (D : va_G) (cI cC cZ cJ : ClassId) (ad : Nat → Nat) (N : Nat) (ea : Nat → Nat → Nat) (n : Nat) (x1 : Int32) (G : SG) {post : Int32 → SG → Prop} (h : V_X6_read N n x1 G post) : MetIE ea l yX6_read cX6_read 2 .int RM_X6_read D (ty4 cI cC cZ cJ) (wT ad cI cC cZ cJ N G) [.ref (ad 8), .int x1] (fun u : SG => (wT ad cI cC cZ cJ N u)) post := by
  refine mkIE (by decide) (Nat.le_of_ble_eq_true rfl) ?_
  intro p e s m args below meth c A ls hC hr hlk hw hE hl
  have hx := hC.1
  have hb := hC.2.1
  have hl : lv_has ls 2 [(0, .ref (ad 8)), (1, .int x1)] := hl
  unfold V_X6_read at h
  refine lv_iload_n hx hb dX6_read_0 rfl (lv_at hl 1 rfl) ?_
  refine cSI ksX6_40 hC (m_X6_isOfAtom l x1 h) rfl rfl ⟨by decide, by decide⟩ rfl hl.1 (Nat.le_of_ble_eq_true rfl) dX6_read_1 ⟨Nat.zero_le _, Nat.zero_le _⟩ rfl ?_
  intro r_1 h
  refine lv_if_eq (tgt := 14) hx hb dX6_read_4 (by decide) (fun c_2 => ?_) (fun c_2 => ?_)
  · have h := h.1 c_2
    refine lv_aload_n hx hb dX6_read_14 rfl (lv_at hl 0 rfl) ?_
    refine cVIwe kmX6_51 hC hw hE (m_X6_endAtom l D cI cC cZ cJ ad N ea n  G h) rfl rfl ⟨by decide, by decide⟩ (recvW hw rfl 8 rfl) rfl hl.1 (Nat.le_of_ble_eq_true rfl) dX6_read_15 ⟨Nat.zero_le _, Nat.zero_le _⟩ rfl ?_
    intro r_3 g_4 H locs h hw
    refine lv_if_ne (tgt := 26) hx hb dX6_read_18 (by decide) (fun c_5 => ?_) (fun c_5 => ?_)
    · have h := h.1 c_5
      refine lv_iload_n hx hb dX6_read_26 rfl (lv_at hl 1 rfl) ?_
      by_cases c_6_39 : x1 = (39 : Int32)
      · refine lv_tableIn (off := 31) (tgt := 58) hx hb dX6_read_27 (by rw [c_6_39]; decide) (by rw [c_6_39]; decide) (by rw [c_6_39]; decide) (by decide) ?_
        have h := h.1 c_6_39
        refine lv_aload_n hx hb dX6_read_58 rfl (lv_at hl 0 rfl) ?_
        refine gt (v := .int (g_4 3 0 1)) kfX6_63 8 hC hw rfl rfl dX6_read_59 ?_
        refine lv_if_ne (tgt := 69) hx hb dX6_read_62 (by decide) (fun c_7 => ?_) (fun c_7 => ?_)
        · have h := h.1 c_7
          refine lv_aload_n hx hb dX6_read_69 rfl (lv_at hl 0 rfl) ?_
          refine lv_iconst (v := (1 : Int32)) hx hb dX6_read_70 (by decide) ?_
          refine cVIwe kmX6_59 hC hw hE (m_X6_openOne l D cI cC cZ cJ ad N ea (1 : Int32) g_4 h) rfl rfl ⟨by decide, by decide⟩ (recvW hw rfl 8 rfl) rfl hl.1 (Nat.le_of_ble_eq_true rfl) dX6_read_71 ⟨Nat.zero_le _, Nat.zero_le _⟩ rfl ?_
          intro r_8 g_9 H locs h hw
          exact rtI (wf := (fun u : SG => (wT ad cI cC cZ cJ N u))) g_9 hC hr hlk hw rfl h dX6_read_74
        · have h := h.2 c_7
          refine lv_iconst (v := (0 : Int32)) hx hb dX6_read_65 (by decide) ?_
          refine lv_goto (tgt := 74) hx hb dX6_read_66 (by decide) ?_
          exact rtI (wf := (fun u : SG => (wT ad cI cC cZ cJ N u))) g_4 hC hr hlk hw rfl h dX6_read_74
      have h := h.2
      by_cases c_6_40 : x1 = (40 : Int32)
      · refine lv_tableIn (off := 25) (tgt := 52) hx hb dX6_read_27 (by rw [c_6_40]; decide) (by rw [c_6_40]; decide) (by rw [c_6_40]; decide) (by decide) ?_
        have h := h.1 c_6_40
        refine lv_aload_n hx hb dX6_read_52 rfl (lv_at hl 0 rfl) ?_
        refine lv_iconst (v := (0 : Int32)) hx hb dX6_read_53 (by decide) ?_
        refine cVIwe kmX6_59 hC hw hE (m_X6_openOne l D cI cC cZ cJ ad N ea (0 : Int32) g_4 h) rfl rfl ⟨by decide, by decide⟩ (recvW hw rfl 8 rfl) rfl hl.1 (Nat.le_of_ble_eq_true rfl) dX6_read_54 ⟨Nat.zero_le _, Nat.zero_le _⟩ rfl ?_
        intro r_10 g_11 H locs h hw
        exact rtI (wf := (fun u : SG => (wT ad cI cC cZ cJ N u))) g_11 hC hr hlk hw rfl h dX6_read_57
      have h := h.2
      by_cases c_6_41 : x1 = (41 : Int32)
      · refine lv_tableIn (off := 48) (tgt := 75) hx hb dX6_read_27 (by rw [c_6_41]; decide) (by rw [c_6_41]; decide) (by rw [c_6_41]; decide) (by decide) ?_
        have h := h.1 c_6_41
        refine lv_aload_n hx hb dX6_read_75 rfl (lv_at hl 0 rfl) ?_
        refine cVIwe kmX6_66 hC hw hE (m_X6_close l D cI cC cZ cJ ad N ea n  g_4 h) rfl rfl ⟨by decide, by decide⟩ (recvW hw rfl 8 rfl) rfl hl.1 (Nat.le_of_ble_eq_true rfl) dX6_read_76 ⟨Nat.zero_le _, Nat.zero_le _⟩ rfl ?_
        intro r_12 g_13 H locs h hw
        exact rtI (wf := (fun u : SG => (wT ad cI cC cZ cJ N u))) g_13 hC hr hlk hw rfl h dX6_read_79
      have h := h.2
      have nc_6_39 := lv_neT c_6_39 (a := 39) (by decide)
      have nc_6_40 := lv_neT c_6_40 (a := 40) (by decide)
      have nc_6_41 := lv_neT c_6_41 (a := 41) (by decide)
      refine lv_tableOut (tgt := 80) hx hb dX6_read_27 (by omega) (by decide) ?_
      have h := h c_6_39 c_6_40 c_6_41
      refine lv_iconst (v := (0 : Int32)) hx hb dX6_read_80 (by decide) ?_
      exact rtI (wf := (fun u : SG => (wT ad cI cC cZ cJ N u))) g_4 hC hr hlk hw rfl h dX6_read_81
    · have h := h.2 c_5
      refine lv_aload_n hx hb dX6_read_21 rfl (lv_at hl 0 rfl) ?_
      refine cVIwe kmX6_55 hC hw hE (m_X6_refuse l D cI cC cZ cJ ad N ea  g_4 h) rfl rfl ⟨by decide, by decide⟩ (recvW hw rfl 8 rfl) rfl hl.1 (Nat.le_of_ble_eq_true rfl) dX6_read_22 ⟨Nat.zero_le _, Nat.zero_le _⟩ rfl ?_
      intro r_14 g_15 H locs h hw
      exact rtI (wf := (fun u : SG => (wT ad cI cC cZ cJ N u))) g_15 hC hr hlk hw rfl h dX6_read_25
  · have h := h.2 c_2
    refine lv_aload_n hx hb dX6_read_7 rfl (lv_at hl 0 rfl) ?_
    refine lv_iload_n hx hb dX6_read_8 rfl (lv_at hl 1 rfl) ?_
    refine cVVwe kmX6_47 hC hw hE (m_X6_addLetter l D cI cC cZ cJ ad N ea x1 G h) rfl rfl ⟨by decide, by decide⟩ (recvW hw rfl 8 rfl) rfl hl.1 (Nat.le_of_ble_eq_true rfl) dX6_read_9 ⟨Nat.zero_le _, Nat.zero_le _⟩ rfl ?_
    intro g_17 H locs h hw
    refine lv_iconst (v := (0 : Int32)) hx hb dX6_read_12 (by decide) ?_
    exact rtI (wf := (fun u : SG => (wT ad cI cC cZ cJ N u))) g_17 hC hr hlk hw rfl h dX6_read_13
