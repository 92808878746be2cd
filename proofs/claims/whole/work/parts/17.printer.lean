abbrev RM_X4_write (d : Nat) : Room := { frames := 8 * d + (10 + 0), cells := 0, slots := 0, locals := 200 * d + (300 + 0) }
def V_X4_writeText_2 (N : Nat) (post : SG → Prop) : Nat → Nat → Int32 → SG → Prop
  | 0, _, _, _ => False
  | n + 1, x1, x2, G => (x1 < 37 ∧ V_J0_length_8abf5 x1 (fun r_1 => ((r_1 ≤ x2 → post G) ∧ (¬ r_1 ≤ x2 → (x1 < 37 ∧ V_J0_charAt_5068e x1 x2 (fun r_3 => V_X5_add 200 r_3 (G 6) (fun u_6 => ∀ g_5 : SG, g_5 = uo G 6 u_6 → ∀ x_7 : Int32, x_7 = x2 + (1 : Int32) → V_X4_writeText_2 N post n x1 x_7 g_5)))))))
def V_X4_writeText (N : Nat) (n : Nat) (x1 : Nat) (G : SG) (post : SG → Prop) : Prop := ∀ x_8 : Int32, x_8 = (0 : Int32) → V_X4_writeText_2 N post n x1 x_8 G
abbrev RM_X4_writeText : Room := { frames := 4, cells := 0, slots := 0, locals := 85 }
set_option maxHeartbeats 4000000 in
set_option maxRecDepth 100000 in
theorem m_X4_writeText (l : Launch) (D : va_G) (cI cC cZ cJ : ClassId) (ad : Nat → Nat) (N : Nat) (ea : Nat → Nat → Nat) (n : Nat) (x1 : Nat) (G : SG) {post : SG → Prop} (h : V_X4_writeText N n x1 G post) : MetVE ea l yX4_writeText cX4_writeText 3 RM_X4_writeText D (ty4 cI cC cZ cJ) (wT ad cI cC cZ cJ N G) [.ref (ad 18), .ref (ea 2 x1)] (fun u : SG => (wT ad cI cC cZ cJ N u)) post := by
  refine mkVE (by decide) (Nat.le_of_ble_eq_true rfl) ?_
  intro p e s m args below meth c A ls hC hr hlk hw hE hl
  have hx := hC.1
  have hb := hC.2.1
  have hl : lv_has ls 3 [(0, .ref (ad 18)), (1, .ref (ea 2 x1))] := hl
  have w_2 : ∀ (n : Nat) (x1 : Nat) (x2 : Int32) (G : SG) (H : Heap) (locs : List Loc) (ls : Array Slot), V_X4_writeText_2 N post n x1 x2 G → Wd D (ty4 cI cC cZ cJ) A s (wT ad cI cC cZ cJ N G) H locs → lv_has ls 3 [(0, .ref (ad 18)), (1, .ref (ea 2 x1)), (2, .int x2)] → W p l e RM_X4_writeText s m args below meth c H locs 0 0 (QV below D (ty4 cI cC cZ cJ) A args s (fun u : SG => (wT ad cI cC cZ cJ N u)) post) (F0 m 2 ls []) := by
    intro n
    induction n with
    | zero =>
      intro x1 x2 G H locs ls h
      exact False.elim h
    | succ n ih =>
      intro x1 x2 G H locs ls h hw hl
      rw [V_X4_writeText_2] at h
      refine lv_iload_n hx hb dX4_writeText_2 rfl (lv_at hl 2 rfl) ?_
      refine lv_aload_n hx hb dX4_writeText_3 rfl (lv_at hl 1 rfl) ?_
      refine cVI0 kmX4_57 hC hw hE (m_J0_length_8abf5 l D cI cC cZ cJ ea x1 h.2) rfl rfl ⟨by decide, by decide⟩ (va_Orecv (hE.2.2.2.2.2.2.2.1 _ h.1).1 hw.2.2.2.1) rfl hl.1 (Nat.le_of_ble_eq_true rfl) dX4_writeText_4 ⟨Nat.zero_le _, Nat.zero_le _⟩ rfl ?_
      intro r_1 H locs h hw
      refine lv_icmp_ge (tgt := 28) hx hb dX4_writeText_7 (by decide) (fun c_2 => ?_) (fun c_2 => ?_)
      · have h := h.1 c_2
        exact rtV (wf := (fun u : SG => (wT ad cI cC cZ cJ N u))) G hC hr hlk hw h dX4_writeText_28
      · have h := h.2 c_2
        refine lv_aload_n hx hb dX4_writeText_10 rfl (lv_at hl 0 rfl) ?_
        refine gt (v := .ref (ad 16)) kfX4_19 18 hC hw rfl rfl dX4_writeText_11 ?_
        refine lv_aload_n hx hb dX4_writeText_14 rfl (lv_at hl 1 rfl) ?_
        refine lv_iload_n hx hb dX4_writeText_15 rfl (lv_at hl 2 rfl) ?_
        refine cVI0 kmX4_63 hC hw hE (m_J0_charAt_5068e l D cI cC cZ cJ ea x1 x2 h.2) rfl rfl ⟨by decide, by decide⟩ (va_Orecv (hE.2.2.2.2.2.2.2.1 _ h.1).1 hw.2.2.2.1) rfl hl.1 (Nat.le_of_ble_eq_true rfl) dX4_writeText_16 ⟨Nat.zero_le _, Nat.zero_le _⟩ rfl ?_
        intro r_3 H locs h hw
        refine eV_wT_wQu_16 kmX4_23 hC hw (m_X5_add l D cI cC cZ cJ (fun j => ad (16 + j)) 200 r_3 (G 6) h) rfl rfl ⟨by decide, by decide⟩ rfl hl.1 (Nat.le_of_ble_eq_true rfl) dX4_writeText_19 ⟨Nat.zero_le _, Nat.zero_le _⟩ rfl ?_
        intro u_6 g_5 H locs eg_5 h hw
        have h := h g_5 eg_5
        obtain ⟨x_7, ex_7⟩ : ∃ y : Int32, y = x2 + (1 : Int32) := ⟨_, rfl⟩
        have h := h x_7 ex_7
        refine lv_iinc (v := x_7) (lv' := [(2, .int x_7), (0, .ref (ad 18)), (1, .ref (ea 2 x1))]) hx hb dX4_writeText_22 hl (k := 2) rfl (by rw [ex_7]; rfl) (by decide) rfl (fun ls hl => ?_)
        refine lv_goto (tgt := 2) hx hb dX4_writeText_25 (by decide) ?_
        exact ih x1 x_7 g_5 _ _ _ h hw (lv_sub hl [1, 2, 0] rfl)
  unfold V_X4_writeText at h
  refine lv_iconst (v := (0 : Int32)) hx hb dX4_writeText_0 (by decide) ?_
  refine lv_topi (fun x_8 ex_8 => ?_)
  have h := h x_8 ex_8
  refine lv_istore_n (lv' := [(2, .int x_8), (0, .ref (ad 18)), (1, .ref (ea 2 x1))]) hx hb dX4_writeText_1 rfl hl (by decide) rfl (fun ls hl => ?_)
  exact w_2 n x1 x_8 G _ _ _ h hw (lv_sub hl [1, 2, 0] rfl)
def V_X4_writeNumber_40 (N : Nat) (post : SG → Prop) : Nat → Int32 → Int32 → SG → Prop
  | 0, _, _, _ => False
  | n + 1, x2, x3, G => ((x3 ≤ 0 → post G) ∧ (¬ x3 ≤ 0 → (¬ x3 = 0 ∧ V_X5_add 200 ((48 : Int32) + ((x2 / x3) - (x2 / x3) / (10 : Int32) * (10 : Int32))) (G 6) (fun u_4 => ∀ g_3 : SG, g_3 = uo G 6 u_4 → ∀ x_5 : Int32, x_5 = (x3 / (10 : Int32)) → V_X4_writeNumber_40 N post n x2 x_5 g_3))))
def V_X4_writeNumber_22 (N : Nat) (post : SG → Prop) : Nat → Int32 → Int32 → SG → Prop
  | 0, _, _, _ => False
  | n + 1, x2, x3, G => ((x3 ≤ (1 : Int32) → V_X4_writeNumber_40 N post n x2 x3 G) ∧ (¬ x3 ≤ (1 : Int32) → ((x3 ≤ x2 → V_X4_writeNumber_40 N post n x2 x3 G) ∧ (¬ x3 ≤ x2 → ∀ x_8 : Int32, x_8 = (x3 / (10 : Int32)) → V_X4_writeNumber_22 N post n x2 x_8 G))))
def V_X4_writeNumber (N : Nat) (n : Nat) (x1 : Int32) (G : SG) (post : SG → Prop) : Prop := ((0 ≤ x1 → ∀ x_10 : Int32, x_10 = (if 0 ≤ x1 then x1 else 0 - x1) → ∀ x_11 : Int32, x_11 = (10000 : Int32) → V_X4_writeNumber_22 N post n x_10 x_11 G) ∧ (¬ 0 ≤ x1 → V_X5_add 200 (45 : Int32) (G 6) (fun u_14 => ∀ g_13 : SG, g_13 = uo G 6 u_14 → ∀ x_15 : Int32, x_15 = (if 0 ≤ x1 then x1 else 0 - x1) → ∀ x_16 : Int32, x_16 = (10000 : Int32) → V_X4_writeNumber_22 N post n x_15 x_16 g_13)))
abbrev RM_X4_writeNumber : Room := { frames := 1, cells := 0, slots := 0, locals := 22 }
set_option maxHeartbeats 4000000 in
set_option maxRecDepth 100000 in
theorem m_X4_writeNumber (l : Launch) (D : va_G) (cI cC cZ cJ : ClassId) (ad : Nat → Nat) (N : Nat) (ea : Nat → Nat → Nat) (n : Nat) (x1 : Int32) (G : SG) {post : SG → Prop} (h : V_X4_writeNumber N n x1 G post) : MetVE ea l yX4_writeNumber cX4_writeNumber 4 RM_X4_writeNumber D (ty4 cI cC cZ cJ) (wT ad cI cC cZ cJ N G) [.ref (ad 18), .int x1] (fun u : SG => (wT ad cI cC cZ cJ N u)) post := by
  refine mkVE (by decide) (Nat.le_of_ble_eq_true rfl) ?_
  intro p e s m args below meth c A ls hC hr hlk hw hE hl
  have hx := hC.1
  have hb := hC.2.1
  have hl : lv_has ls 4 [(0, .ref (ad 18)), (1, .int x1)] := hl
  have w_40 : ∀ (n : Nat) (x2 : Int32) (x3 : Int32) (G : SG) (H : Heap) (locs : List Loc) (ls : Array Slot), V_X4_writeNumber_40 N post n x2 x3 G → Wd D (ty4 cI cC cZ cJ) A s (wT ad cI cC cZ cJ N G) H locs → lv_has ls 4 [(0, .ref (ad 18)), (2, .int x2), (3, .int x3)] → W p l e RM_X4_writeNumber s m args below meth c H locs 0 0 (QV below D (ty4 cI cC cZ cJ) A args s (fun u : SG => (wT ad cI cC cZ cJ N u)) post) (F0 m 40 ls []) := by
    intro n
    induction n with
    | zero =>
      intro x2 x3 G H locs ls h
      exact False.elim h
    | succ n ih =>
      intro x2 x3 G H locs ls h hw hl
      rw [V_X4_writeNumber_40] at h
      refine lv_iload_n hx hb dX4_writeNumber_40 rfl (lv_at hl 2 rfl) ?_
      refine lv_if_le (tgt := 68) hx hb dX4_writeNumber_41 (by decide) (fun c_1 => ?_) (fun c_1 => ?_)
      · have h := h.1 c_1
        exact rtV (wf := (fun u : SG => (wT ad cI cC cZ cJ N u))) G hC hr hlk hw h dX4_writeNumber_68
      · have h := h.2 c_1
        refine lv_aload_n hx hb dX4_writeNumber_44 rfl (lv_at hl 0 rfl) ?_
        refine gt (v := .ref (ad 16)) kfX4_19 18 hC hw rfl rfl dX4_writeNumber_45 ?_
        refine lv_bipush (v := (48 : Int32)) hx hb dX4_writeNumber_48 (by decide) ?_
        refine lv_iload_n hx hb dX4_writeNumber_50 rfl (lv_at hl 1 rfl) ?_
        refine lv_iload_n hx hb dX4_writeNumber_51 rfl (lv_at hl 2 rfl) ?_
        refine lv_idiv hx hb dX4_writeNumber_52 h.1 ?_
        have h := h.2
        refine lv_bipush (v := (10 : Int32)) hx hb dX4_writeNumber_53 (by decide) ?_
        refine lv_irem hx hb dX4_writeNumber_55 (by decide) ?_
        refine lv_iadd hx hb dX4_writeNumber_56 ?_
        refine eV_wT_wQu_16 kmX4_23 hC hw (m_X5_add l D cI cC cZ cJ (fun j => ad (16 + j)) 200 ((48 : Int32) + ((x2 / x3) - (x2 / x3) / (10 : Int32) * (10 : Int32))) (G 6) h) rfl rfl ⟨by decide, by decide⟩ rfl hl.1 (Nat.le_of_ble_eq_true rfl) dX4_writeNumber_57 ⟨Nat.zero_le _, Nat.zero_le _⟩ rfl ?_
        intro u_4 g_3 H locs eg_3 h hw
        have h := h g_3 eg_3
        refine lv_iload_n hx hb dX4_writeNumber_60 rfl (lv_at hl 2 rfl) ?_
        refine lv_bipush (v := (10 : Int32)) hx hb dX4_writeNumber_61 (by decide) ?_
        refine lv_idiv hx hb dX4_writeNumber_63 (by decide) ?_
        refine lv_topi (fun x_5 ex_5 => ?_)
        have h := h x_5 ex_5
        refine lv_istore_n (lv' := [(3, .int x_5), (0, .ref (ad 18)), (2, .int x2)]) hx hb dX4_writeNumber_64 rfl hl (by decide) rfl (fun ls hl => ?_)
        refine lv_goto (tgt := 40) hx hb dX4_writeNumber_65 (by decide) ?_
        exact ih x2 x_5 g_3 _ _ _ h hw (lv_sub hl [1, 2, 0] rfl)
  have w_22 : ∀ (n : Nat) (x2 : Int32) (x3 : Int32) (G : SG) (H : Heap) (locs : List Loc) (ls : Array Slot), V_X4_writeNumber_22 N post n x2 x3 G → Wd D (ty4 cI cC cZ cJ) A s (wT ad cI cC cZ cJ N G) H locs → lv_has ls 4 [(0, .ref (ad 18)), (2, .int x2), (3, .int x3)] → W p l e RM_X4_writeNumber s m args below meth c H locs 0 0 (QV below D (ty4 cI cC cZ cJ) A args s (fun u : SG => (wT ad cI cC cZ cJ N u)) post) (F0 m 22 ls []) := by
    intro n
    induction n with
    | zero =>
      intro x2 x3 G H locs ls h
      exact False.elim h
    | succ n ih =>
      intro x2 x3 G H locs ls h hw hl
      rw [V_X4_writeNumber_22] at h
      refine lv_iload_n hx hb dX4_writeNumber_22 rfl (lv_at hl 2 rfl) ?_
      refine lv_iconst (v := (1 : Int32)) hx hb dX4_writeNumber_23 (by decide) ?_
      refine lv_icmp_le (tgt := 40) hx hb dX4_writeNumber_24 (by decide) (fun c_6 => ?_) (fun c_6 => ?_)
      · have h := h.1 c_6
        exact w_40 n x2 x3 G _ _ _ h hw (lv_sub hl [0, 1, 2] rfl)
      · have h := h.2 c_6
        refine lv_iload_n hx hb dX4_writeNumber_27 rfl (lv_at hl 2 rfl) ?_
        refine lv_iload_n hx hb dX4_writeNumber_28 rfl (lv_at hl 1 rfl) ?_
        refine lv_icmp_le (tgt := 40) hx hb dX4_writeNumber_29 (by decide) (fun c_7 => ?_) (fun c_7 => ?_)
        · have h := h.1 c_7
          exact w_40 n x2 x3 G _ _ _ h hw (lv_sub hl [0, 1, 2] rfl)
        · have h := h.2 c_7
          refine lv_iload_n hx hb dX4_writeNumber_32 rfl (lv_at hl 2 rfl) ?_
          refine lv_bipush (v := (10 : Int32)) hx hb dX4_writeNumber_33 (by decide) ?_
          refine lv_idiv hx hb dX4_writeNumber_35 (by decide) ?_
          refine lv_topi (fun x_8 ex_8 => ?_)
          have h := h x_8 ex_8
          refine lv_istore_n (lv' := [(3, .int x_8), (0, .ref (ad 18)), (2, .int x2)]) hx hb dX4_writeNumber_36 rfl hl (by decide) rfl (fun ls hl => ?_)
          refine lv_goto (tgt := 22) hx hb dX4_writeNumber_37 (by decide) ?_
          exact ih x2 x_8 G _ _ _ h hw (lv_sub hl [1, 2, 0] rfl)
  unfold V_X4_writeNumber at h
  refine lv_iload_n hx hb dX4_writeNumber_0 rfl (lv_at hl 1 rfl) ?_
  refine lv_if_ge (tgt := 13) hx hb dX4_writeNumber_1 (by decide) (fun c_9 => ?_) (fun c_9 => ?_)
  · have h := h.1 c_9
    refine lv_iload_n hx hb dX4_writeNumber_13 rfl (lv_at hl 1 rfl) ?_
    refine va_mabs hx hb (hC.2.2.1.trans hl.1.symm) hC.2.2.2.1 (hC.2.2.2.2 _ (List.mem_cons_of_mem _ kMX4_67)) (hC.2.2.2.2 _ (List.mem_cons_of_mem _ kMs_abs)) (hC.2.2.2.2 _ (List.mem_cons_of_mem _ kMi)) (hC.2.2.2.2 _ (List.mem_cons_of_mem _ kMc_abs)) (Nat.le_of_ble_eq_true rfl) (Nat.le_of_ble_eq_true rfl) (Nat.zero_le _) (Nat.zero_le _) dX4_writeNumber_14 ?_
    refine lv_topi (fun x_10 ex_10 => ?_)
    have h := h x_10 ex_10
    refine lv_istore_n (lv' := [(2, .int x_10), (0, .ref (ad 18)), (1, .int x1)]) hx hb dX4_writeNumber_17 rfl hl (by decide) rfl (fun ls hl => ?_)
    refine lv_sipush (v := (10000 : Int32)) hx hb dX4_writeNumber_18 (by decide) ?_
    refine lv_topi (fun x_11 ex_11 => ?_)
    have h := h x_11 ex_11
    refine lv_istore_n (lv' := [(3, .int x_11), (2, .int x_10), (0, .ref (ad 18)), (1, .int x1)]) hx hb dX4_writeNumber_21 rfl hl (by decide) rfl (fun ls hl => ?_)
    exact w_22 n x_10 x_11 G _ _ _ h hw (lv_sub hl [2, 1, 0] rfl)
  · have h := h.2 c_9
    refine lv_aload_n hx hb dX4_writeNumber_4 rfl (lv_at hl 0 rfl) ?_
    refine gt (v := .ref (ad 16)) kfX4_19 18 hC hw rfl rfl dX4_writeNumber_5 ?_
    refine lv_bipush (v := (45 : Int32)) hx hb dX4_writeNumber_8 (by decide) ?_
    refine eV_wT_wQu_16 kmX4_23 hC hw (m_X5_add l D cI cC cZ cJ (fun j => ad (16 + j)) 200 (45 : Int32) (G 6) h) rfl rfl ⟨by decide, by decide⟩ rfl hl.1 (Nat.le_of_ble_eq_true rfl) dX4_writeNumber_10 ⟨Nat.zero_le _, Nat.zero_le _⟩ rfl ?_
    intro u_14 g_13 H locs eg_13 h hw
    have h := h g_13 eg_13
    refine lv_iload_n hx hb dX4_writeNumber_13 rfl (lv_at hl 1 rfl) ?_
    refine va_mabs hx hb (hC.2.2.1.trans hl.1.symm) hC.2.2.2.1 (hC.2.2.2.2 _ (List.mem_cons_of_mem _ kMX4_67)) (hC.2.2.2.2 _ (List.mem_cons_of_mem _ kMs_abs)) (hC.2.2.2.2 _ (List.mem_cons_of_mem _ kMi)) (hC.2.2.2.2 _ (List.mem_cons_of_mem _ kMc_abs)) (Nat.le_of_ble_eq_true rfl) (Nat.le_of_ble_eq_true rfl) (Nat.zero_le _) (Nat.zero_le _) dX4_writeNumber_14 ?_
    refine lv_topi (fun x_15 ex_15 => ?_)
    have h := h x_15 ex_15
    refine lv_istore_n (lv' := [(2, .int x_15), (0, .ref (ad 18)), (1, .int x1)]) hx hb dX4_writeNumber_17 rfl hl (by decide) rfl (fun ls hl => ?_)
    refine lv_sipush (v := (10000 : Int32)) hx hb dX4_writeNumber_18 (by decide) ?_
    refine lv_topi (fun x_16 ex_16 => ?_)
    have h := h x_16 ex_16
    refine lv_istore_n (lv' := [(3, .int x_16), (2, .int x_15), (0, .ref (ad 18)), (1, .int x1)]) hx hb dX4_writeNumber_21 rfl hl (by decide) rfl (fun ls hl => ?_)
    exact w_22 n x_15 x_16 g_13 _ _ _ h hw (lv_sub hl [2, 1, 0] rfl)
def V_X4_writeName_2 (N : Nat) (post : SG → Prop) : Nat → Int32 → Int32 → SG → Prop
  | 0, _, _, _ => False
  | n + 1, x1, x2, G => V_X9_length x1 (G 1) (fun r_1 u_3 => ∀ g_2 : SG, g_2 = uo G 1 u_3 → ((r_1 ≤ x2 → post g_2) ∧ (¬ r_1 ≤ x2 → V_X9_letter x1 x2 (g_2 1) (fun r_5 u_7 => ∀ g_6 : SG, g_6 = uo g_2 1 u_7 → V_X5_add 200 r_5 (g_6 6) (fun u_10 => ∀ g_9 : SG, g_9 = uo g_6 6 u_10 → ∀ x_11 : Int32, x_11 = x2 + (1 : Int32) → V_X4_writeName_2 N post n x1 x_11 g_9)))))
def V_X4_writeName (N : Nat) (n : Nat) (x1 : Int32) (G : SG) (post : SG → Prop) : Prop := ∀ x_12 : Int32, x_12 = (0 : Int32) → V_X4_writeName_2 N post n x1 x_12 G
abbrev RM_X4_writeName : Room := { frames := 2, cells := 0, slots := 0, locals := 42 }
set_option maxHeartbeats 4000000 in
set_option maxRecDepth 100000 in
theorem m_X4_writeName (l : Launch) (D : va_G) (cI cC cZ cJ : ClassId) (ad : Nat → Nat) (N : Nat) (ea : Nat → Nat → Nat) (n : Nat) (x1 : Int32) (G : SG) {post : SG → Prop} (h : V_X4_writeName N n x1 G post) : MetVE ea l yX4_writeName cX4_writeName 3 RM_X4_writeName D (ty4 cI cC cZ cJ) (wT ad cI cC cZ cJ N G) [.ref (ad 18), .int x1] (fun u : SG => (wT ad cI cC cZ cJ N u)) post := by
  refine mkVE (by decide) (Nat.le_of_ble_eq_true rfl) ?_
  intro p e s m args below meth c A ls hC hr hlk hw hE hl
  have hx := hC.1
  have hb := hC.2.1
  have hl : lv_has ls 3 [(0, .ref (ad 18)), (1, .int x1)] := hl
  have w_2 : ∀ (n : Nat) (x1 : Int32) (x2 : Int32) (G : SG) (H : Heap) (locs : List Loc) (ls : Array Slot), V_X4_writeName_2 N post n x1 x2 G → Wd D (ty4 cI cC cZ cJ) A s (wT ad cI cC cZ cJ N G) H locs → lv_has ls 3 [(0, .ref (ad 18)), (1, .int x1), (2, .int x2)] → W p l e RM_X4_writeName s m args below meth c H locs 0 0 (QV below D (ty4 cI cC cZ cJ) A args s (fun u : SG => (wT ad cI cC cZ cJ N u)) post) (F0 m 2 ls []) := by
    intro n
    induction n with
    | zero =>
      intro x1 x2 G H locs ls h
      exact False.elim h
    | succ n ih =>
      intro x1 x2 G H locs ls h hw hl
      rw [V_X4_writeName_2] at h
      refine lv_iload_n hx hb dX4_writeName_2 rfl (lv_at hl 2 rfl) ?_
      refine lv_aload_n hx hb dX4_writeName_3 rfl (lv_at hl 0 rfl) ?_
      refine gt (v := .ref (ad 1)) kfX4_15 18 hC hw rfl rfl dX4_writeName_4 ?_
      refine lv_iload_n hx hb dX4_writeName_7 rfl (lv_at hl 1 rfl) ?_
      refine eI_wT_wSy_1 kmX4_72 hC hw (m_X9_length l D cI cC cZ cJ (fun j => ad (1 + j)) x1 (G 1) h) rfl rfl ⟨by decide, by decide⟩ rfl hl.1 (Nat.le_of_ble_eq_true rfl) dX4_writeName_8 ⟨Nat.zero_le _, Nat.zero_le _⟩ rfl ?_
      intro r_1 u_3 g_2 H locs eg_2 h hw
      have h := h g_2 eg_2
      refine lv_icmp_ge (tgt := 36) hx hb dX4_writeName_11 (by decide) (fun c_4 => ?_) (fun c_4 => ?_)
      · have h := h.1 c_4
        exact rtV (wf := (fun u : SG => (wT ad cI cC cZ cJ N u))) g_2 hC hr hlk hw h dX4_writeName_36
      · have h := h.2 c_4
        refine lv_aload_n hx hb dX4_writeName_14 rfl (lv_at hl 0 rfl) ?_
        refine gt (v := .ref (ad 16)) kfX4_19 18 hC hw rfl rfl dX4_writeName_15 ?_
        refine lv_aload_n hx hb dX4_writeName_18 rfl (lv_at hl 0 rfl) ?_
        refine gt (v := .ref (ad 1)) kfX4_15 18 hC hw rfl rfl dX4_writeName_19 ?_
        refine lv_iload_n hx hb dX4_writeName_22 rfl (lv_at hl 1 rfl) ?_
        refine lv_iload_n hx hb dX4_writeName_23 rfl (lv_at hl 2 rfl) ?_
        refine eI_wT_wSy_1 kmX4_76 hC hw (m_X9_letter l D cI cC cZ cJ (fun j => ad (1 + j)) x1 x2 (g_2 1) h) rfl rfl ⟨by decide, by decide⟩ rfl hl.1 (Nat.le_of_ble_eq_true rfl) dX4_writeName_24 ⟨Nat.zero_le _, Nat.zero_le _⟩ rfl ?_
        intro r_5 u_7 g_6 H locs eg_6 h hw
        have h := h g_6 eg_6
        refine eV_wT_wQu_16 kmX4_23 hC hw (m_X5_add l D cI cC cZ cJ (fun j => ad (16 + j)) 200 r_5 (g_6 6) h) rfl rfl ⟨by decide, by decide⟩ rfl hl.1 (Nat.le_of_ble_eq_true rfl) dX4_writeName_27 ⟨Nat.zero_le _, Nat.zero_le _⟩ rfl ?_
        intro u_10 g_9 H locs eg_9 h hw
        have h := h g_9 eg_9
        obtain ⟨x_11, ex_11⟩ : ∃ y : Int32, y = x2 + (1 : Int32) := ⟨_, rfl⟩
        have h := h x_11 ex_11
        refine lv_iinc (v := x_11) (lv' := [(2, .int x_11), (0, .ref (ad 18)), (1, .int x1)]) hx hb dX4_writeName_30 hl (k := 2) rfl (by rw [ex_11]; rfl) (by decide) rfl (fun ls hl => ?_)
        refine lv_goto (tgt := 2) hx hb dX4_writeName_33 (by decide) ?_
        exact ih x1 x_11 g_9 _ _ _ h hw (lv_sub hl [1, 2, 0] rfl)
  unfold V_X4_writeName at h
  refine lv_iconst (v := (0 : Int32)) hx hb dX4_writeName_0 (by decide) ?_
  refine lv_topi (fun x_12 ex_12 => ?_)
  have h := h x_12 ex_12
  refine lv_istore_n (lv' := [(2, .int x_12), (0, .ref (ad 18)), (1, .int x1)]) hx hb dX4_writeName_1 rfl hl (by decide) rfl (fun ls hl => ?_)
  exact w_2 n x1 x_12 G _ _ _ h hw (lv_sub hl [1, 2, 0] rfl)
def V_X4_writeList_117 (N : Nat) (E : Int32 → Int32 → SG → (SG → Prop) → Prop) (post : SG → Prop) (n : Nat) (x2 : Int32) (x3 : Int32) (G : SG) : Prop := ((x3 = (1 : Int32) → V_X5_add 200 (41 : Int32) (G 6) (fun u_4 => ∀ g_3 : SG, g_3 = uo G 6 u_4 → post g_3)) ∧ (¬ x3 = (1 : Int32) → V_X5_isFull 200  (G 6) (fun r_5 u_7 => ∀ g_6 : SG, g_6 = uo G 6 u_7 → ((¬ r_5 = 0 → V_X5_add 200 (41 : Int32) (g_6 6) (fun u_11 => ∀ g_10 : SG, g_10 = uo g_6 6 u_11 → post g_10)) ∧ (r_5 = 0 → V_X4_writeText N n 36 g_6 (fun g_13 => E x3 (x2 + (1 : Int32)) g_13 (fun g_15 => V_X5_add 200 (41 : Int32) (g_15 6) (fun u_18 => ∀ g_17 : SG, g_17 = uo g_15 6 u_18 → post g_17))))))))
def V_X4_writeList_52 (N : Nat) (E : Int32 → Int32 → SG → (SG → Prop) → Prop) (post : SG → Prop) : Nat → Int32 → Int32 → Int32 → SG → Prop
  | 0, _, _, _, _ => False
  | n + 1, x2, x3, x4, G => (((200 : Int32) ≤ x4 → V_X4_writeList_117 N E post n x2 x3 G) ∧ (¬ (200 : Int32) ≤ x4 → V_X10_tag x3 (fun r_20 => ((¬ r_20 = (4 : Int32) → V_X4_writeList_117 N E post n x2 x3 G) ∧ (r_20 = (4 : Int32) → V_X5_isFull 200  (G 6) (fun r_22 u_24 => ∀ g_23 : SG, g_23 = uo G 6 u_24 → ((¬ r_22 = 0 → V_X4_writeList_117 N E post n x2 x3 g_23) ∧ (r_22 = 0 → V_X5_add 200 (32 : Int32) (g_23 6) (fun u_28 => ∀ g_27 : SG, g_27 = uo g_23 6 u_28 → V_X2_car N x3 (g_27 2) (fun r_29 u_31 => ∀ g_30 : SG, g_30 = uo g_27 2 u_31 → E r_29 (x2 + (1 : Int32)) g_30 (fun g_33 => V_X2_cdr N x3 (g_33 2) (fun r_34 u_36 => ∀ g_35 : SG, g_35 = uo g_33 2 u_36 → ∀ x_37 : Int32, x_37 = x4 + (1 : Int32) → V_X4_writeList_52 N E post n x2 r_34 x_37 g_35))))))))))))
def V_X4_writeList (N : Nat) (n : Nat) (E : Int32 → Int32 → SG → (SG → Prop) → Prop) (x1 : Int32) (x2 : Int32) (G : SG) (post : SG → Prop) : Prop := ((x2 < (8 : Int32) → V_X5_add 200 (40 : Int32) (G 6) (fun u_41 => ∀ g_40 : SG, g_40 = uo G 6 u_41 → V_X2_car N x1 (g_40 2) (fun r_42 u_44 => ∀ g_43 : SG, g_43 = uo g_40 2 u_44 → E r_42 (x2 + (1 : Int32)) g_43 (fun g_46 => V_X2_cdr N x1 (g_46 2) (fun r_47 u_49 => ∀ g_48 : SG, g_48 = uo g_46 2 u_49 → ∀ x_50 : Int32, x_50 = (0 : Int32) → V_X4_writeList_52 N E post n x2 r_47 x_50 g_48))))) ∧ (¬ x2 < (8 : Int32) → V_X5_add 200 (42 : Int32) (G 6) (fun u_53 => ∀ g_52 : SG, g_52 = uo G 6 u_53 → post g_52)))
abbrev RM_X4_writeList (d : Nat) : Room := { frames := 8 * d + (10 + 1), cells := 0, slots := 0, locals := 200 * d + (300 + 22) }
set_option maxHeartbeats 4000000 in
set_option maxRecDepth 100000 in
theorem m_X4_writeList (l : Launch) (D : va_G) (cI cC cZ cJ : ClassId) (ad : Nat → Nat) (N : Nat) (ea : Nat → Nat → Nat) (n : Nat) (d : Nat) (E : Int32 → Int32 → SG → (SG → Prop) → Prop) (hrec : ∀ (a b : Int32) (G : SG) (post : SG → Prop), E a b G post → MetVE ea l yX4_write cX4_write 3 (RM_X4_write d) D (ty4 cI cC cZ cJ) (wT ad cI cC cZ cJ N G) [.ref (ad 18), .int a, .int b] (fun u : SG => (wT ad cI cC cZ cJ N u)) post) (x1 : Int32) (x2 : Int32) (G : SG) {post : SG → Prop} (h : V_X4_writeList N n E x1 x2 G post) : MetVE ea l yX4_writeList cX4_writeList 5 (RM_X4_writeList d) D (ty4 cI cC cZ cJ) (wT ad cI cC cZ cJ N G) [.ref (ad 18), .int x1, .int x2] (fun u : SG => (wT ad cI cC cZ cJ N u)) post := by
  refine mkVE (by decide) (Nat.le_of_ble_eq_true rfl) ?_
  intro p e s m args below meth c A ls hC hr hlk hw hE hl
  have hx := hC.1
  have hb := hC.2.1
  have hl : lv_has ls 5 [(0, .ref (ad 18)), (1, .int x1), (2, .int x2)] := hl
  have w_117 : ∀ (n : Nat) (x2 : Int32) (x3 : Int32) (G : SG) (H : Heap) (locs : List Loc) (ls : Array Slot), V_X4_writeList_117 N E post n x2 x3 G → Wd D (ty4 cI cC cZ cJ) A s (wT ad cI cC cZ cJ N G) H locs → lv_has ls 5 [(0, .ref (ad 18)), (2, .int x2), (3, .int x3)] → W p l e (RM_X4_writeList d) s m args below meth c H locs 0 0 (QV below D (ty4 cI cC cZ cJ) A args s (fun u : SG => (wT ad cI cC cZ cJ N u)) post) (F0 m 117 ls []) := by
    intro n x2 x3 G H locs ls h hw hl
    unfold V_X4_writeList_117 at h
    refine lv_iload_n hx hb dX4_writeList_117 rfl (lv_at hl 2 rfl) ?_
    refine lv_iconst (v := (1 : Int32)) hx hb dX4_writeList_118 (by decide) ?_
    refine lv_icmp_eq (tgt := 146) hx hb dX4_writeList_119 (by decide) (fun c_1 => ?_) (fun c_1 => ?_)
    · have h := h.1 c_1
      refine lv_aload_n hx hb dX4_writeList_146 rfl (lv_at hl 0 rfl) ?_
      refine gt (v := .ref (ad 16)) kfX4_19 18 hC hw rfl rfl dX4_writeList_147 ?_
      refine lv_bipush (v := (41 : Int32)) hx hb dX4_writeList_150 (by decide) ?_
      refine eV_wT_wQu_16 kmX4_23 hC hw (m_X5_add l D cI cC cZ cJ (fun j => ad (16 + j)) 200 (41 : Int32) (G 6) h) rfl rfl ⟨(show 0 + 1 ≤ 8 * d + (10 + 1) by omega), (show 8 + (3 + 11) + (0) ≤ 200 * d + (300 + 22) by omega)⟩ rfl hl.1 (Nat.le_of_ble_eq_true rfl) dX4_writeList_152 ⟨Nat.zero_le _, Nat.zero_le _⟩ rfl ?_
      intro u_4 g_3 H locs eg_3 h hw
      have h := h g_3 eg_3
      exact rtV (wf := (fun u : SG => (wT ad cI cC cZ cJ N u))) g_3 hC hr hlk hw h dX4_writeList_155
    · have h := h.2 c_1
      refine lv_aload_n hx hb dX4_writeList_122 rfl (lv_at hl 0 rfl) ?_
      refine gt (v := .ref (ad 16)) kfX4_19 18 hC hw rfl rfl dX4_writeList_123 ?_
      refine eI_wT_wQu_16 kmX4_91 hC hw (m_X5_isFull l D cI cC cZ cJ (fun j => ad (16 + j)) 200  (G 6) h) rfl rfl ⟨(show 0 + 1 ≤ 8 * d + (10 + 1) by omega), (show 8 + (1 + 11) + (0) ≤ 200 * d + (300 + 22) by omega)⟩ rfl hl.1 (Nat.le_of_ble_eq_true rfl) dX4_writeList_126 ⟨Nat.zero_le _, Nat.zero_le _⟩ rfl ?_
      intro r_5 u_7 g_6 H locs eg_6 h hw
      have h := h g_6 eg_6
      refine lv_if_ne (tgt := 146) hx hb dX4_writeList_129 (by decide) (fun c_8 => ?_) (fun c_8 => ?_)
      · have h := h.1 c_8
        refine lv_aload_n hx hb dX4_writeList_146 rfl (lv_at hl 0 rfl) ?_
        refine gt (v := .ref (ad 16)) kfX4_19 18 hC hw rfl rfl dX4_writeList_147 ?_
        refine lv_bipush (v := (41 : Int32)) hx hb dX4_writeList_150 (by decide) ?_
        refine eV_wT_wQu_16 kmX4_23 hC hw (m_X5_add l D cI cC cZ cJ (fun j => ad (16 + j)) 200 (41 : Int32) (g_6 6) h) rfl rfl ⟨(show 0 + 1 ≤ 8 * d + (10 + 1) by omega), (show 8 + (3 + 11) + (0) ≤ 200 * d + (300 + 22) by omega)⟩ rfl hl.1 (Nat.le_of_ble_eq_true rfl) dX4_writeList_152 ⟨Nat.zero_le _, Nat.zero_le _⟩ rfl ?_
        intro u_11 g_10 H locs eg_10 h hw
        have h := h g_10 eg_10
        exact rtV (wf := (fun u : SG => (wT ad cI cC cZ cJ N u))) g_10 hC hr hlk hw h dX4_writeList_155
      · have h := h.2 c_8
        refine lv_aload_n hx hb dX4_writeList_132 rfl (lv_at hl 0 rfl) ?_
        refine va_ldcS hx hb hC.2.2.2.1 hE.2.2.2.2.2.2.2.2.1.2.2.2.2.1 dX4_writeList_133 ?_
        refine cVVwe kmX4_53 hC hw hE (m_X4_writeText l D cI cC cZ cJ ad N ea n 36 g_6 h) rfl rfl ⟨(show 4 + 1 ≤ 8 * d + (10 + 1) by omega), (show 8 + (3 + 11) + (85) ≤ 200 * d + (300 + 22) by omega)⟩ (recvW hw rfl 18 rfl) rfl hl.1 (Nat.le_of_ble_eq_true rfl) dX4_writeList_135 ⟨Nat.zero_le _, Nat.zero_le _⟩ rfl ?_
        intro g_13 H locs h hw
        refine lv_aload_n hx hb dX4_writeList_138 rfl (lv_at hl 0 rfl) ?_
        refine lv_iload_n hx hb dX4_writeList_139 rfl (lv_at hl 2 rfl) ?_
        refine lv_iload_n hx hb dX4_writeList_140 rfl (lv_at hl 1 rfl) ?_
        refine lv_iconst (v := (1 : Int32)) hx hb dX4_writeList_141 (by decide) ?_
        refine lv_iadd hx hb dX4_writeList_142 ?_
        refine cVVwe kmX4_85 hC hw hE (hrec x3 (x2 + (1 : Int32)) g_13 _ h) rfl rfl ⟨(show 8 * d + (10 + 0) + 1 ≤ 8 * d + (10 + 1) by omega), (show 8 + (3 + 11) + (200 * d + (300 + 0)) ≤ 200 * d + (300 + 22) by omega)⟩ (recvW hw rfl 18 rfl) rfl hl.1 (Nat.le_of_ble_eq_true rfl) dX4_writeList_143 ⟨Nat.zero_le _, Nat.zero_le _⟩ rfl ?_
        intro g_15 H locs h hw
        refine lv_aload_n hx hb dX4_writeList_146 rfl (lv_at hl 0 rfl) ?_
        refine gt (v := .ref (ad 16)) kfX4_19 18 hC hw rfl rfl dX4_writeList_147 ?_
        refine lv_bipush (v := (41 : Int32)) hx hb dX4_writeList_150 (by decide) ?_
        refine eV_wT_wQu_16 kmX4_23 hC hw (m_X5_add l D cI cC cZ cJ (fun j => ad (16 + j)) 200 (41 : Int32) (g_15 6) h) rfl rfl ⟨(show 0 + 1 ≤ 8 * d + (10 + 1) by omega), (show 8 + (3 + 11) + (0) ≤ 200 * d + (300 + 22) by omega)⟩ rfl hl.1 (Nat.le_of_ble_eq_true rfl) dX4_writeList_152 ⟨Nat.zero_le _, Nat.zero_le _⟩ rfl ?_
        intro u_18 g_17 H locs eg_17 h hw
        have h := h g_17 eg_17
        exact rtV (wf := (fun u : SG => (wT ad cI cC cZ cJ N u))) g_17 hC hr hlk hw h dX4_writeList_155
  have w_52 : ∀ (n : Nat) (x2 : Int32) (x3 : Int32) (x4 : Int32) (G : SG) (H : Heap) (locs : List Loc) (ls : Array Slot), V_X4_writeList_52 N E post n x2 x3 x4 G → Wd D (ty4 cI cC cZ cJ) A s (wT ad cI cC cZ cJ N G) H locs → lv_has ls 5 [(0, .ref (ad 18)), (2, .int x2), (3, .int x3), (4, .int x4)] → W p l e (RM_X4_writeList d) s m args below meth c H locs 0 0 (QV below D (ty4 cI cC cZ cJ) A args s (fun u : SG => (wT ad cI cC cZ cJ N u)) post) (F0 m 52 ls []) := by
    intro n
    induction n with
    | zero =>
      intro x2 x3 x4 G H locs ls h
      exact False.elim h
    | succ n ih =>
      intro x2 x3 x4 G H locs ls h hw hl
      rw [V_X4_writeList_52] at h
      refine lv_iload hx hb dX4_writeList_52 (lv_at hl 3 rfl) ?_
      refine lv_sipush (v := (200 : Int32)) hx hb dX4_writeList_54 (by decide) ?_
      refine lv_icmp_ge (tgt := 117) hx hb dX4_writeList_57 (by decide) (fun c_19 => ?_) (fun c_19 => ?_)
      · have h := h.1 c_19
        exact w_117 n x2 x3 G _ _ _ h hw (lv_sub hl [0, 1, 2] rfl)
      · have h := h.2 c_19
        refine lv_iload_n hx hb dX4_writeList_60 rfl (lv_at hl 2 rfl) ?_
        refine cSI ksX4_29 hC (m_X10_tag l x3 h) rfl rfl ⟨(show 0 + 1 ≤ 8 * d + (10 + 1) by omega), (show 8 + (1 + 11) + (0) ≤ 200 * d + (300 + 22) by omega)⟩ rfl hl.1 (Nat.le_of_ble_eq_true rfl) dX4_writeList_61 ⟨Nat.zero_le _, Nat.zero_le _⟩ rfl ?_
        intro r_20 h
        refine lv_iconst (v := (4 : Int32)) hx hb dX4_writeList_64 (by decide) ?_
        refine lv_icmp_ne (tgt := 117) hx hb dX4_writeList_65 (by decide) (fun c_21 => ?_) (fun c_21 => ?_)
        · have h := h.1 c_21
          exact w_117 n x2 x3 G _ _ _ h hw (lv_sub hl [0, 1, 2] rfl)
        · have h := h.2 c_21
          refine lv_aload_n hx hb dX4_writeList_68 rfl (lv_at hl 0 rfl) ?_
          refine gt (v := .ref (ad 16)) kfX4_19 18 hC hw rfl rfl dX4_writeList_69 ?_
          refine eI_wT_wQu_16 kmX4_91 hC hw (m_X5_isFull l D cI cC cZ cJ (fun j => ad (16 + j)) 200  (G 6) h) rfl rfl ⟨(show 0 + 1 ≤ 8 * d + (10 + 1) by omega), (show 8 + (1 + 11) + (0) ≤ 200 * d + (300 + 22) by omega)⟩ rfl hl.1 (Nat.le_of_ble_eq_true rfl) dX4_writeList_72 ⟨Nat.zero_le _, Nat.zero_le _⟩ rfl ?_
          intro r_22 u_24 g_23 H locs eg_23 h hw
          have h := h g_23 eg_23
          refine lv_if_ne (tgt := 117) hx hb dX4_writeList_75 (by decide) (fun c_25 => ?_) (fun c_25 => ?_)
          · have h := h.1 c_25
            exact w_117 n x2 x3 g_23 _ _ _ h hw (lv_sub hl [0, 1, 2] rfl)
          · have h := h.2 c_25
            refine lv_aload_n hx hb dX4_writeList_78 rfl (lv_at hl 0 rfl) ?_
            refine gt (v := .ref (ad 16)) kfX4_19 18 hC hw rfl rfl dX4_writeList_79 ?_
            refine lv_bipush (v := (32 : Int32)) hx hb dX4_writeList_82 (by decide) ?_
            refine eV_wT_wQu_16 kmX4_23 hC hw (m_X5_add l D cI cC cZ cJ (fun j => ad (16 + j)) 200 (32 : Int32) (g_23 6) h) rfl rfl ⟨(show 0 + 1 ≤ 8 * d + (10 + 1) by omega), (show 8 + (3 + 11) + (0) ≤ 200 * d + (300 + 22) by omega)⟩ rfl hl.1 (Nat.le_of_ble_eq_true rfl) dX4_writeList_84 ⟨Nat.zero_le _, Nat.zero_le _⟩ rfl ?_
            intro u_28 g_27 H locs eg_27 h hw
            have h := h g_27 eg_27
            refine lv_aload_n hx hb dX4_writeList_87 rfl (lv_at hl 0 rfl) ?_
            refine lv_aload_n hx hb dX4_writeList_88 rfl (lv_at hl 0 rfl) ?_
            refine gt (v := .ref (ad 6)) kfX4_9 18 hC hw rfl rfl dX4_writeList_89 ?_
            refine lv_iload_n hx hb dX4_writeList_92 rfl (lv_at hl 2 rfl) ?_
            refine eI_wT_wHp_6 kmX4_80 hC hw (m_X2_car l D cI cC cZ cJ (fun j => ad (6 + j)) N x3 (g_27 2) h) rfl rfl ⟨(show 1 + 1 ≤ 8 * d + (10 + 1) by omega), (show 8 + (2 + 11) + (21) ≤ 200 * d + (300 + 22) by omega)⟩ rfl hl.1 (Nat.le_of_ble_eq_true rfl) dX4_writeList_93 ⟨Nat.zero_le _, Nat.zero_le _⟩ rfl ?_
            intro r_29 u_31 g_30 H locs eg_30 h hw
            have h := h g_30 eg_30
            refine lv_iload_n hx hb dX4_writeList_96 rfl (lv_at hl 1 rfl) ?_
            refine lv_iconst (v := (1 : Int32)) hx hb dX4_writeList_97 (by decide) ?_
            refine lv_iadd hx hb dX4_writeList_98 ?_
            refine cVVwe kmX4_85 hC hw hE (hrec r_29 (x2 + (1 : Int32)) g_30 _ h) rfl rfl ⟨(show 8 * d + (10 + 0) + 1 ≤ 8 * d + (10 + 1) by omega), (show 8 + (3 + 11) + (200 * d + (300 + 0)) ≤ 200 * d + (300 + 22) by omega)⟩ (recvW hw rfl 18 rfl) rfl hl.1 (Nat.le_of_ble_eq_true rfl) dX4_writeList_99 ⟨Nat.zero_le _, Nat.zero_le _⟩ rfl ?_
            intro g_33 H locs h hw
            refine lv_aload_n hx hb dX4_writeList_102 rfl (lv_at hl 0 rfl) ?_
            refine gt (v := .ref (ad 6)) kfX4_9 18 hC hw rfl rfl dX4_writeList_103 ?_
            refine lv_iload_n hx hb dX4_writeList_106 rfl (lv_at hl 2 rfl) ?_
            refine eI_wT_wHp_6 kmX4_88 hC hw (m_X2_cdr l D cI cC cZ cJ (fun j => ad (6 + j)) N x3 (g_33 2) h) rfl rfl ⟨(show 1 + 1 ≤ 8 * d + (10 + 1) by omega), (show 8 + (2 + 11) + (21) ≤ 200 * d + (300 + 22) by omega)⟩ rfl hl.1 (Nat.le_of_ble_eq_true rfl) dX4_writeList_107 ⟨Nat.zero_le _, Nat.zero_le _⟩ rfl ?_
            intro r_34 u_36 g_35 H locs eg_35 h hw
            have h := h g_35 eg_35
            refine lv_istore_n (lv' := [(3, .int r_34), (0, .ref (ad 18)), (2, .int x2), (4, .int x4)]) hx hb dX4_writeList_110 rfl hl (by decide) rfl (fun ls hl => ?_)
            obtain ⟨x_37, ex_37⟩ : ∃ y : Int32, y = x4 + (1 : Int32) := ⟨_, rfl⟩
            have h := h x_37 ex_37
            refine lv_iinc (v := x_37) (lv' := [(4, .int x_37), (3, .int r_34), (0, .ref (ad 18)), (2, .int x2)]) hx hb dX4_writeList_111 hl (k := 3) rfl (by rw [ex_37]; rfl) (by decide) rfl (fun ls hl => ?_)
            refine lv_goto (tgt := 52) hx hb dX4_writeList_114 (by decide) ?_
            exact ih x2 r_34 x_37 g_35 _ _ _ h hw (lv_sub hl [2, 3, 1, 0] rfl)
  unfold V_X4_writeList at h
  refine lv_iload_n hx hb dX4_writeList_0 rfl (lv_at hl 2 rfl) ?_
  refine lv_bipush (v := (8 : Int32)) hx hb dX4_writeList_1 (by decide) ?_
  refine lv_icmp_lt (tgt := 16) hx hb dX4_writeList_3 (by decide) (fun c_38 => ?_) (fun c_38 => ?_)
  · have h := h.1 c_38
    refine lv_aload_n hx hb dX4_writeList_16 rfl (lv_at hl 0 rfl) ?_
    refine gt (v := .ref (ad 16)) kfX4_19 18 hC hw rfl rfl dX4_writeList_17 ?_
    refine lv_bipush (v := (40 : Int32)) hx hb dX4_writeList_20 (by decide) ?_
    refine eV_wT_wQu_16 kmX4_23 hC hw (m_X5_add l D cI cC cZ cJ (fun j => ad (16 + j)) 200 (40 : Int32) (G 6) h) rfl rfl ⟨(show 0 + 1 ≤ 8 * d + (10 + 1) by omega), (show 8 + (3 + 11) + (0) ≤ 200 * d + (300 + 22) by omega)⟩ rfl hl.1 (Nat.le_of_ble_eq_true rfl) dX4_writeList_22 ⟨Nat.zero_le _, Nat.zero_le _⟩ rfl ?_
    intro u_41 g_40 H locs eg_40 h hw
    have h := h g_40 eg_40
    refine lv_aload_n hx hb dX4_writeList_25 rfl (lv_at hl 0 rfl) ?_
    refine lv_aload_n hx hb dX4_writeList_26 rfl (lv_at hl 0 rfl) ?_
    refine gt (v := .ref (ad 6)) kfX4_9 18 hC hw rfl rfl dX4_writeList_27 ?_
    refine lv_iload_n hx hb dX4_writeList_30 rfl (lv_at hl 1 rfl) ?_
    refine eI_wT_wHp_6 kmX4_80 hC hw (m_X2_car l D cI cC cZ cJ (fun j => ad (6 + j)) N x1 (g_40 2) h) rfl rfl ⟨(show 1 + 1 ≤ 8 * d + (10 + 1) by omega), (show 8 + (2 + 11) + (21) ≤ 200 * d + (300 + 22) by omega)⟩ rfl hl.1 (Nat.le_of_ble_eq_true rfl) dX4_writeList_31 ⟨Nat.zero_le _, Nat.zero_le _⟩ rfl ?_
    intro r_42 u_44 g_43 H locs eg_43 h hw
    have h := h g_43 eg_43
    refine lv_iload_n hx hb dX4_writeList_34 rfl (lv_at hl 2 rfl) ?_
    refine lv_iconst (v := (1 : Int32)) hx hb dX4_writeList_35 (by decide) ?_
    refine lv_iadd hx hb dX4_writeList_36 ?_
    refine cVVwe kmX4_85 hC hw hE (hrec r_42 (x2 + (1 : Int32)) g_43 _ h) rfl rfl ⟨(show 8 * d + (10 + 0) + 1 ≤ 8 * d + (10 + 1) by omega), (show 8 + (3 + 11) + (200 * d + (300 + 0)) ≤ 200 * d + (300 + 22) by omega)⟩ (recvW hw rfl 18 rfl) rfl hl.1 (Nat.le_of_ble_eq_true rfl) dX4_writeList_37 ⟨Nat.zero_le _, Nat.zero_le _⟩ rfl ?_
    intro g_46 H locs h hw
    refine lv_aload_n hx hb dX4_writeList_40 rfl (lv_at hl 0 rfl) ?_
    refine gt (v := .ref (ad 6)) kfX4_9 18 hC hw rfl rfl dX4_writeList_41 ?_
    refine lv_iload_n hx hb dX4_writeList_44 rfl (lv_at hl 1 rfl) ?_
    refine eI_wT_wHp_6 kmX4_88 hC hw (m_X2_cdr l D cI cC cZ cJ (fun j => ad (6 + j)) N x1 (g_46 2) h) rfl rfl ⟨(show 1 + 1 ≤ 8 * d + (10 + 1) by omega), (show 8 + (2 + 11) + (21) ≤ 200 * d + (300 + 22) by omega)⟩ rfl hl.1 (Nat.le_of_ble_eq_true rfl) dX4_writeList_45 ⟨Nat.zero_le _, Nat.zero_le _⟩ rfl ?_
    intro r_47 u_49 g_48 H locs eg_48 h hw
    have h := h g_48 eg_48
    refine lv_istore_n (lv' := [(3, .int r_47), (0, .ref (ad 18)), (1, .int x1), (2, .int x2)]) hx hb dX4_writeList_48 rfl hl (by decide) rfl (fun ls hl => ?_)
    refine lv_iconst (v := (0 : Int32)) hx hb dX4_writeList_49 (by decide) ?_
    refine lv_topi (fun x_50 ex_50 => ?_)
    have h := h x_50 ex_50
    refine lv_istore (lv' := [(4, .int x_50), (3, .int r_47), (0, .ref (ad 18)), (1, .int x1), (2, .int x2)]) hx hb dX4_writeList_50 hl (by decide) rfl (fun ls hl => ?_)
    exact w_52 n x2 r_47 x_50 g_48 _ _ _ h hw (lv_sub hl [2, 4, 1, 0] rfl)
  · have h := h.2 c_38
    refine lv_aload_n hx hb dX4_writeList_6 rfl (lv_at hl 0 rfl) ?_
    refine gt (v := .ref (ad 16)) kfX4_19 18 hC hw rfl rfl dX4_writeList_7 ?_
    refine lv_bipush (v := (42 : Int32)) hx hb dX4_writeList_10 (by decide) ?_
    refine eV_wT_wQu_16 kmX4_23 hC hw (m_X5_add l D cI cC cZ cJ (fun j => ad (16 + j)) 200 (42 : Int32) (G 6) h) rfl rfl ⟨(show 0 + 1 ≤ 8 * d + (10 + 1) by omega), (show 8 + (3 + 11) + (0) ≤ 200 * d + (300 + 22) by omega)⟩ rfl hl.1 (Nat.le_of_ble_eq_true rfl) dX4_writeList_12 ⟨Nat.zero_le _, Nat.zero_le _⟩ rfl ?_
    intro u_53 g_52 H locs eg_52 h hw
    have h := h g_52 eg_52
    exact rtV (wf := (fun u : SG => (wT ad cI cC cZ cJ N u))) g_52 hC hr hlk hw h dX4_writeList_15
def V_X4_writeVector_67 (N : Nat) (E : Int32 → Int32 → SG → (SG → Prop) → Prop) (K37 : Int32 → Int32 → Int32 → Int32 → SG → Prop) (post : SG → Prop) (n : Nat) (x1 : Int32) (x2 : Int32) (x3 : Int32) (x4 : Int32) (G : SG) : Prop := V_X10_held x1 (fun r_1 => V_X2_at N ((r_1 + (1 : Int32)) + x4) (G 2) (fun r_2 u_4 => ∀ g_3 : SG, g_3 = uo G 2 u_4 → E r_2 (x2 + (1 : Int32)) g_3 (fun g_6 => ∀ x_7 : Int32, x_7 = x4 + (1 : Int32) → K37 x1 x2 x3 x_7 g_6)))
def V_X4_writeVector_37 (N : Nat) (E : Int32 → Int32 → SG → (SG → Prop) → Prop) (post : SG → Prop) : Nat → Int32 → Int32 → Int32 → Int32 → SG → Prop
  | 0, _, _, _, _, _ => False
  | n + 1, x1, x2, x3, x4, G => ((x3 ≤ x4 → V_X5_add 200 (93 : Int32) (G 6) (fun u_11 => ∀ g_10 : SG, g_10 = uo G 6 u_11 → post g_10)) ∧ (¬ x3 ≤ x4 → V_X5_isFull 200  (G 6) (fun r_12 u_14 => ∀ g_13 : SG, g_13 = uo G 6 u_14 → ((¬ r_12 = 0 → V_X5_add 200 (93 : Int32) (g_13 6) (fun u_18 => ∀ g_17 : SG, g_17 = uo g_13 6 u_18 → post g_17)) ∧ (r_12 = 0 → ((x4 ≤ 0 → V_X4_writeVector_67 N E (fun x1 x2 x3 x4 G => V_X4_writeVector_37 N E post n x1 x2 x3 x4 G) post n x1 x2 x3 x4 g_13) ∧ (¬ x4 ≤ 0 → V_X5_add 200 (32 : Int32) (g_13 6) (fun u_22 => ∀ g_21 : SG, g_21 = uo g_13 6 u_22 → V_X4_writeVector_67 N E (fun x1 x2 x3 x4 G => V_X4_writeVector_37 N E post n x1 x2 x3 x4 G) post n x1 x2 x3 x4 g_21))))))))
def V_X4_writeVector (N : Nat) (n : Nat) (E : Int32 → Int32 → SG → (SG → Prop) → Prop) (x1 : Int32) (x2 : Int32) (G : SG) (post : SG → Prop) : Prop := ((x2 < (8 : Int32) → V_X5_add 200 (91 : Int32) (G 6) (fun u_26 => ∀ g_25 : SG, g_25 = uo G 6 u_26 → V_X2_vectorLength N x1 (g_25 2) (fun r_27 u_29 => ∀ g_28 : SG, g_28 = uo g_25 2 u_29 → ∀ x_30 : Int32, x_30 = (0 : Int32) → V_X4_writeVector_37 N E post n x1 x2 r_27 x_30 g_28))) ∧ (¬ x2 < (8 : Int32) → V_X5_add 200 (42 : Int32) (G 6) (fun u_33 => ∀ g_32 : SG, g_32 = uo G 6 u_33 → post g_32)))
abbrev RM_X4_writeVector (d : Nat) : Room := { frames := 8 * d + (10 + 1), cells := 0, slots := 0, locals := 200 * d + (300 + 22) }
set_option maxHeartbeats 4000000 in
set_option maxRecDepth 100000 in
theorem m_X4_writeVector (l : Launch) (D : va_G) (cI cC cZ cJ : ClassId) (ad : Nat → Nat) (N : Nat) (ea : Nat → Nat → Nat) (n : Nat) (d : Nat) (E : Int32 → Int32 → SG → (SG → Prop) → Prop) (hrec : ∀ (a b : Int32) (G : SG) (post : SG → Prop), E a b G post → MetVE ea l yX4_write cX4_write 3 (RM_X4_write d) D (ty4 cI cC cZ cJ) (wT ad cI cC cZ cJ N G) [.ref (ad 18), .int a, .int b] (fun u : SG => (wT ad cI cC cZ cJ N u)) post) (x1 : Int32) (x2 : Int32) (G : SG) {post : SG → Prop} (h : V_X4_writeVector N n E x1 x2 G post) : MetVE ea l yX4_writeVector cX4_writeVector 5 (RM_X4_writeVector d) D (ty4 cI cC cZ cJ) (wT ad cI cC cZ cJ N G) [.ref (ad 18), .int x1, .int x2] (fun u : SG => (wT ad cI cC cZ cJ N u)) post := by
  refine mkVE (by decide) (Nat.le_of_ble_eq_true rfl) ?_
  intro p e s m args below meth c A ls hC hr hlk hw hE hl
  have hx := hC.1
  have hb := hC.2.1
  have hl : lv_has ls 5 [(0, .ref (ad 18)), (1, .int x1), (2, .int x2)] := hl
  have w_67 : ∀ (K37 : Int32 → Int32 → Int32 → Int32 → SG → Prop) (hK37 : ∀ (x1 : Int32) (x2 : Int32) (x3 : Int32) (x4 : Int32) (G : SG) (H : Heap) (locs : List Loc) (ls : Array Slot), K37 x1 x2 x3 x4 G → Wd D (ty4 cI cC cZ cJ) A s (wT ad cI cC cZ cJ N G) H locs → lv_has ls 5 [(0, .ref (ad 18)), (1, .int x1), (2, .int x2), (3, .int x3), (4, .int x4)] → W p l e (RM_X4_writeVector d) s m args below meth c H locs 0 0 (QV below D (ty4 cI cC cZ cJ) A args s (fun u : SG => (wT ad cI cC cZ cJ N u)) post) (F0 m 37 ls [])) (n : Nat) (x1 : Int32) (x2 : Int32) (x3 : Int32) (x4 : Int32) (G : SG) (H : Heap) (locs : List Loc) (ls : Array Slot), V_X4_writeVector_67 N E K37 post n x1 x2 x3 x4 G → Wd D (ty4 cI cC cZ cJ) A s (wT ad cI cC cZ cJ N G) H locs → lv_has ls 5 [(0, .ref (ad 18)), (1, .int x1), (2, .int x2), (3, .int x3), (4, .int x4)] → W p l e (RM_X4_writeVector d) s m args below meth c H locs 0 0 (QV below D (ty4 cI cC cZ cJ) A args s (fun u : SG => (wT ad cI cC cZ cJ N u)) post) (F0 m 67 ls []) := by
    intro K37 hK37 n x1 x2 x3 x4 G H locs ls h hw hl
    unfold V_X4_writeVector_67 at h
    refine lv_aload_n hx hb dX4_writeVector_67 rfl (lv_at hl 0 rfl) ?_
    refine lv_aload_n hx hb dX4_writeVector_68 rfl (lv_at hl 0 rfl) ?_
    refine gt (v := .ref (ad 6)) kfX4_9 18 hC hw rfl rfl dX4_writeVector_69 ?_
    refine lv_iload_n hx hb dX4_writeVector_72 rfl (lv_at hl 1 rfl) ?_
    refine cSI ksX4_35 hC (m_X10_held l x1 h) rfl rfl ⟨(show 0 + 1 ≤ 8 * d + (10 + 1) by omega), (show 8 + (1 + 11) + (0) ≤ 200 * d + (300 + 22) by omega)⟩ rfl hl.1 (Nat.le_of_ble_eq_true rfl) dX4_writeVector_73 ⟨Nat.zero_le _, Nat.zero_le _⟩ rfl ?_
    intro r_1 h
    refine lv_iconst (v := (1 : Int32)) hx hb dX4_writeVector_76 (by decide) ?_
    refine lv_iadd hx hb dX4_writeVector_77 ?_
    refine lv_iload hx hb dX4_writeVector_78 (lv_at hl 4 rfl) ?_
    refine lv_iadd hx hb dX4_writeVector_80 ?_
    refine eI_wT_wHp_6 kmX4_100 hC hw (m_X2_at l D cI cC cZ cJ (fun j => ad (6 + j)) N ((r_1 + (1 : Int32)) + x4) (G 2) h) rfl rfl ⟨(show 0 + 1 ≤ 8 * d + (10 + 1) by omega), (show 8 + (2 + 11) + (0) ≤ 200 * d + (300 + 22) by omega)⟩ rfl hl.1 (Nat.le_of_ble_eq_true rfl) dX4_writeVector_81 ⟨Nat.zero_le _, Nat.zero_le _⟩ rfl ?_
    intro r_2 u_4 g_3 H locs eg_3 h hw
    have h := h g_3 eg_3
    refine lv_iload_n hx hb dX4_writeVector_84 rfl (lv_at hl 2 rfl) ?_
    refine lv_iconst (v := (1 : Int32)) hx hb dX4_writeVector_85 (by decide) ?_
    refine lv_iadd hx hb dX4_writeVector_86 ?_
    refine cVVwe kmX4_85 hC hw hE (hrec r_2 (x2 + (1 : Int32)) g_3 _ h) rfl rfl ⟨(show 8 * d + (10 + 0) + 1 ≤ 8 * d + (10 + 1) by omega), (show 8 + (3 + 11) + (200 * d + (300 + 0)) ≤ 200 * d + (300 + 22) by omega)⟩ (recvW hw rfl 18 rfl) rfl hl.1 (Nat.le_of_ble_eq_true rfl) dX4_writeVector_87 ⟨Nat.zero_le _, Nat.zero_le _⟩ rfl ?_
    intro g_6 H locs h hw
    obtain ⟨x_7, ex_7⟩ : ∃ y : Int32, y = x4 + (1 : Int32) := ⟨_, rfl⟩
    have h := h x_7 ex_7
    refine lv_iinc (v := x_7) (lv' := [(4, .int x_7), (0, .ref (ad 18)), (1, .int x1), (2, .int x2), (3, .int x3)]) hx hb dX4_writeVector_90 hl (k := 4) rfl (by rw [ex_7]; rfl) (by decide) rfl (fun ls hl => ?_)
    refine lv_goto (tgt := 37) hx hb dX4_writeVector_93 (by decide) ?_
    exact hK37 x1 x2 x3 x_7 g_6 _ _ _ h hw (lv_sub hl [1, 2, 3, 4, 0] rfl)
  have w_37 : ∀ (n : Nat) (x1 : Int32) (x2 : Int32) (x3 : Int32) (x4 : Int32) (G : SG) (H : Heap) (locs : List Loc) (ls : Array Slot), V_X4_writeVector_37 N E post n x1 x2 x3 x4 G → Wd D (ty4 cI cC cZ cJ) A s (wT ad cI cC cZ cJ N G) H locs → lv_has ls 5 [(0, .ref (ad 18)), (1, .int x1), (2, .int x2), (3, .int x3), (4, .int x4)] → W p l e (RM_X4_writeVector d) s m args below meth c H locs 0 0 (QV below D (ty4 cI cC cZ cJ) A args s (fun u : SG => (wT ad cI cC cZ cJ N u)) post) (F0 m 37 ls []) := by
    intro n
    induction n with
    | zero =>
      intro x1 x2 x3 x4 G H locs ls h
      exact False.elim h
    | succ n ih =>
      intro x1 x2 x3 x4 G H locs ls h hw hl
      rw [V_X4_writeVector_37] at h
      refine lv_iload hx hb dX4_writeVector_37 (lv_at hl 4 rfl) ?_
      refine lv_iload_n hx hb dX4_writeVector_39 rfl (lv_at hl 3 rfl) ?_
      refine lv_icmp_ge (tgt := 96) hx hb dX4_writeVector_40 (by decide) (fun c_8 => ?_) (fun c_8 => ?_)
      · have h := h.1 c_8
        refine lv_aload_n hx hb dX4_writeVector_96 rfl (lv_at hl 0 rfl) ?_
        refine gt (v := .ref (ad 16)) kfX4_19 18 hC hw rfl rfl dX4_writeVector_97 ?_
        refine lv_bipush (v := (93 : Int32)) hx hb dX4_writeVector_100 (by decide) ?_
        refine eV_wT_wQu_16 kmX4_23 hC hw (m_X5_add l D cI cC cZ cJ (fun j => ad (16 + j)) 200 (93 : Int32) (G 6) h) rfl rfl ⟨(show 0 + 1 ≤ 8 * d + (10 + 1) by omega), (show 8 + (3 + 11) + (0) ≤ 200 * d + (300 + 22) by omega)⟩ rfl hl.1 (Nat.le_of_ble_eq_true rfl) dX4_writeVector_102 ⟨Nat.zero_le _, Nat.zero_le _⟩ rfl ?_
        intro u_11 g_10 H locs eg_10 h hw
        have h := h g_10 eg_10
        exact rtV (wf := (fun u : SG => (wT ad cI cC cZ cJ N u))) g_10 hC hr hlk hw h dX4_writeVector_105
      · have h := h.2 c_8
        refine lv_aload_n hx hb dX4_writeVector_43 rfl (lv_at hl 0 rfl) ?_
        refine gt (v := .ref (ad 16)) kfX4_19 18 hC hw rfl rfl dX4_writeVector_44 ?_
        refine eI_wT_wQu_16 kmX4_91 hC hw (m_X5_isFull l D cI cC cZ cJ (fun j => ad (16 + j)) 200  (G 6) h) rfl rfl ⟨(show 0 + 1 ≤ 8 * d + (10 + 1) by omega), (show 8 + (1 + 11) + (0) ≤ 200 * d + (300 + 22) by omega)⟩ rfl hl.1 (Nat.le_of_ble_eq_true rfl) dX4_writeVector_47 ⟨Nat.zero_le _, Nat.zero_le _⟩ rfl ?_
        intro r_12 u_14 g_13 H locs eg_13 h hw
        have h := h g_13 eg_13
        refine lv_if_ne (tgt := 96) hx hb dX4_writeVector_50 (by decide) (fun c_15 => ?_) (fun c_15 => ?_)
        · have h := h.1 c_15
          refine lv_aload_n hx hb dX4_writeVector_96 rfl (lv_at hl 0 rfl) ?_
          refine gt (v := .ref (ad 16)) kfX4_19 18 hC hw rfl rfl dX4_writeVector_97 ?_
          refine lv_bipush (v := (93 : Int32)) hx hb dX4_writeVector_100 (by decide) ?_
          refine eV_wT_wQu_16 kmX4_23 hC hw (m_X5_add l D cI cC cZ cJ (fun j => ad (16 + j)) 200 (93 : Int32) (g_13 6) h) rfl rfl ⟨(show 0 + 1 ≤ 8 * d + (10 + 1) by omega), (show 8 + (3 + 11) + (0) ≤ 200 * d + (300 + 22) by omega)⟩ rfl hl.1 (Nat.le_of_ble_eq_true rfl) dX4_writeVector_102 ⟨Nat.zero_le _, Nat.zero_le _⟩ rfl ?_
          intro u_18 g_17 H locs eg_17 h hw
          have h := h g_17 eg_17
          exact rtV (wf := (fun u : SG => (wT ad cI cC cZ cJ N u))) g_17 hC hr hlk hw h dX4_writeVector_105
        · have h := h.2 c_15
          refine lv_iload hx hb dX4_writeVector_53 (lv_at hl 4 rfl) ?_
          refine lv_if_le (tgt := 67) hx hb dX4_writeVector_55 (by decide) (fun c_19 => ?_) (fun c_19 => ?_)
          · have h := h.1 c_19
            exact w_67 _ ih n x1 x2 x3 x4 g_13 _ _ _ h hw (lv_sub hl [0, 1, 2, 3, 4] rfl)
          · have h := h.2 c_19
            refine lv_aload_n hx hb dX4_writeVector_58 rfl (lv_at hl 0 rfl) ?_
            refine gt (v := .ref (ad 16)) kfX4_19 18 hC hw rfl rfl dX4_writeVector_59 ?_
            refine lv_bipush (v := (32 : Int32)) hx hb dX4_writeVector_62 (by decide) ?_
            refine eV_wT_wQu_16 kmX4_23 hC hw (m_X5_add l D cI cC cZ cJ (fun j => ad (16 + j)) 200 (32 : Int32) (g_13 6) h) rfl rfl ⟨(show 0 + 1 ≤ 8 * d + (10 + 1) by omega), (show 8 + (3 + 11) + (0) ≤ 200 * d + (300 + 22) by omega)⟩ rfl hl.1 (Nat.le_of_ble_eq_true rfl) dX4_writeVector_64 ⟨Nat.zero_le _, Nat.zero_le _⟩ rfl ?_
            intro u_22 g_21 H locs eg_21 h hw
            have h := h g_21 eg_21
            exact w_67 _ ih n x1 x2 x3 x4 g_21 _ _ _ h hw (lv_sub hl [0, 1, 2, 3, 4] rfl)
  unfold V_X4_writeVector at h
  refine lv_iload_n hx hb dX4_writeVector_0 rfl (lv_at hl 2 rfl) ?_
  refine lv_bipush (v := (8 : Int32)) hx hb dX4_writeVector_1 (by decide) ?_
  refine lv_icmp_lt (tgt := 16) hx hb dX4_writeVector_3 (by decide) (fun c_23 => ?_) (fun c_23 => ?_)
  · have h := h.1 c_23
    refine lv_aload_n hx hb dX4_writeVector_16 rfl (lv_at hl 0 rfl) ?_
    refine gt (v := .ref (ad 16)) kfX4_19 18 hC hw rfl rfl dX4_writeVector_17 ?_
    refine lv_bipush (v := (91 : Int32)) hx hb dX4_writeVector_20 (by decide) ?_
    refine eV_wT_wQu_16 kmX4_23 hC hw (m_X5_add l D cI cC cZ cJ (fun j => ad (16 + j)) 200 (91 : Int32) (G 6) h) rfl rfl ⟨(show 0 + 1 ≤ 8 * d + (10 + 1) by omega), (show 8 + (3 + 11) + (0) ≤ 200 * d + (300 + 22) by omega)⟩ rfl hl.1 (Nat.le_of_ble_eq_true rfl) dX4_writeVector_22 ⟨Nat.zero_le _, Nat.zero_le _⟩ rfl ?_
    intro u_26 g_25 H locs eg_25 h hw
    have h := h g_25 eg_25
    refine lv_aload_n hx hb dX4_writeVector_25 rfl (lv_at hl 0 rfl) ?_
    refine gt (v := .ref (ad 6)) kfX4_9 18 hC hw rfl rfl dX4_writeVector_26 ?_
    refine lv_iload_n hx hb dX4_writeVector_29 rfl (lv_at hl 1 rfl) ?_
    refine eI_wT_wHp_6 kmX4_97 hC hw (m_X2_vectorLength l D cI cC cZ cJ (fun j => ad (6 + j)) N x1 (g_25 2) h) rfl rfl ⟨(show 1 + 1 ≤ 8 * d + (10 + 1) by omega), (show 8 + (2 + 11) + (21) ≤ 200 * d + (300 + 22) by omega)⟩ rfl hl.1 (Nat.le_of_ble_eq_true rfl) dX4_writeVector_30 ⟨Nat.zero_le _, Nat.zero_le _⟩ rfl ?_
    intro r_27 u_29 g_28 H locs eg_28 h hw
    have h := h g_28 eg_28
    refine lv_istore_n (lv' := [(3, .int r_27), (0, .ref (ad 18)), (1, .int x1), (2, .int x2)]) hx hb dX4_writeVector_33 rfl hl (by decide) rfl (fun ls hl => ?_)
    refine lv_iconst (v := (0 : Int32)) hx hb dX4_writeVector_34 (by decide) ?_
    refine lv_topi (fun x_30 ex_30 => ?_)
    have h := h x_30 ex_30
    refine lv_istore (lv' := [(4, .int x_30), (3, .int r_27), (0, .ref (ad 18)), (1, .int x1), (2, .int x2)]) hx hb dX4_writeVector_35 hl (by decide) rfl (fun ls hl => ?_)
    exact w_37 n x1 x2 r_27 x_30 g_28 _ _ _ h hw (lv_sub hl [2, 3, 4, 1, 0] rfl)
  · have h := h.2 c_23
    refine lv_aload_n hx hb dX4_writeVector_6 rfl (lv_at hl 0 rfl) ?_
    refine gt (v := .ref (ad 16)) kfX4_19 18 hC hw rfl rfl dX4_writeVector_7 ?_
    refine lv_bipush (v := (42 : Int32)) hx hb dX4_writeVector_10 (by decide) ?_
    refine eV_wT_wQu_16 kmX4_23 hC hw (m_X5_add l D cI cC cZ cJ (fun j => ad (16 + j)) 200 (42 : Int32) (G 6) h) rfl rfl ⟨(show 0 + 1 ≤ 8 * d + (10 + 1) by omega), (show 8 + (3 + 11) + (0) ≤ 200 * d + (300 + 22) by omega)⟩ rfl hl.1 (Nat.le_of_ble_eq_true rfl) dX4_writeVector_12 ⟨Nat.zero_le _, Nat.zero_le _⟩ rfl ?_
    intro u_33 g_32 H locs eg_32 h hw
    have h := h g_32 eg_32
    exact rtV (wf := (fun u : SG => (wT ad cI cC cZ cJ N u))) g_32 hC hr hlk hw h dX4_writeVector_15
def V_X4_write (N n : Nat) : Nat → Int32 → Int32 → SG → (SG → Prop) → Prop
  | 0, _, _, _, _ => False
  | d + 1, x1, x2, G, post => V_X10_tag x1 (fun r_1 => ((r_1 = (2 : Int32) → V_X10_held x1 (fun r_3 => V_X4_writeNumber N n r_3 G (fun g_5 => post g_5))) ∧ (r_1 = (3 : Int32) → V_X10_held x1 (fun r_6 => V_X4_writeName N n r_6 G (fun g_8 => post g_8))) ∧ (r_1 = (4 : Int32) → V_X4_writeList N n (fun a b G p => V_X4_write N n d a b G p) x1 x2 G (fun g_10 => post g_10)) ∧ (r_1 = (5 : Int32) → V_X4_writeVector N n (fun a b G p => V_X4_write N n d a b G p) x1 x2 G (fun g_12 => post g_12)) ∧ (r_1 = (6 : Int32) → V_X5_add 200 (35 : Int32) (G 6) (fun u_15 => ∀ g_14 : SG, g_14 = uo G 6 u_15 → post g_14)) ∧ (¬ r_1 = (2 : Int32) → ¬ r_1 = (3 : Int32) → ¬ r_1 = (4 : Int32) → ¬ r_1 = (5 : Int32) → ¬ r_1 = (6 : Int32) → V_X4_writeText N n 35 G (fun g_17 => post g_17))))
set_option maxHeartbeats 4000000 in
set_option maxRecDepth 100000 in
theorem m_X4_write (l : Launch) (D : va_G) (cI cC cZ cJ : ClassId) (ad : Nat → Nat) (N : Nat) (ea : Nat → Nat → Nat) (n : Nat) : ∀ (d : Nat) (x1 x2 : Int32) (G : SG) {post : SG → Prop}, V_X4_write N n d x1 x2 G post → MetVE ea l yX4_write cX4_write 3 (RM_X4_write d) D (ty4 cI cC cZ cJ) (wT ad cI cC cZ cJ N G) [.ref (ad 18), .int x1, .int x2] (fun u : SG => (wT ad cI cC cZ cJ N u)) post := by
  intro d
  induction d with
  | zero =>
    intro x1 x2 G post h
    exact False.elim h
  | succ d ih =>
    intro x1 x2 G post h
    refine mkVE (by decide) (Nat.le_of_ble_eq_true rfl) ?_
    intro p e s m args below meth c A ls hC hr hlk hw hE hl
    have hx := hC.1
    have hb := hC.2.1
    have hl : lv_has ls 3 [(0, .ref (ad 18)), (1, .int x1), (2, .int x2)] := hl
    rw [V_X4_write] at h
    refine lv_iload_n hx hb dX4_write_0 rfl (lv_at hl 1 rfl) ?_
    refine cSI ksX4_29 hC (m_X10_tag l x1 h) rfl rfl ⟨(show 0 + 1 ≤ 8 * (d + 1) + (10 + 0) by omega), (show 8 + (1 + 11) + (0) ≤ 200 * (d + 1) + (300 + 0) by omega)⟩ rfl hl.1 (Nat.le_of_ble_eq_true rfl) dX4_write_1 ⟨Nat.zero_le _, Nat.zero_le _⟩ rfl ?_
    intro r_1 h
    by_cases c_2_2 : r_1 = (2 : Int32)
    · refine lv_tableIn (off := 36) (tgt := 40) hx hb dX4_write_4 (by rw [c_2_2]; decide) (by rw [c_2_2]; decide) (by rw [c_2_2]; decide) (by decide) ?_
      have h := h.1 c_2_2
      refine lv_aload_n hx hb dX4_write_40 rfl (lv_at hl 0 rfl) ?_
      refine lv_iload_n hx hb dX4_write_41 rfl (lv_at hl 1 rfl) ?_
      refine cSI ksX4_35 hC (m_X10_held l x1 h) rfl rfl ⟨(show 0 + 1 ≤ 8 * (d + 1) + (10 + 0) by omega), (show 8 + (1 + 11) + (0) ≤ 200 * (d + 1) + (300 + 0) by omega)⟩ rfl hl.1 (Nat.le_of_ble_eq_true rfl) dX4_write_42 ⟨Nat.zero_le _, Nat.zero_le _⟩ rfl ?_
      intro r_3 h
      refine cVVwe kmX4_38 hC hw hE (m_X4_writeNumber l D cI cC cZ cJ ad N ea n r_3 G h) rfl rfl ⟨(show 1 + 1 ≤ 8 * (d + 1) + (10 + 0) by omega), (show 8 + (4 + 11) + (22) ≤ 200 * (d + 1) + (300 + 0) by omega)⟩ (recvW hw rfl 18 rfl) rfl hl.1 (Nat.le_of_ble_eq_true rfl) dX4_write_45 ⟨Nat.zero_le _, Nat.zero_le _⟩ rfl ?_
      intro g_5 H locs h hw
      refine lv_goto (tgt := 98) hx hb dX4_write_48 (by decide) ?_
      exact rtV (wf := (fun u : SG => (wT ad cI cC cZ cJ N u))) g_5 hC hr hlk hw h dX4_write_98
    have h := h.2
    by_cases c_2_3 : r_1 = (3 : Int32)
    · refine lv_tableIn (off := 47) (tgt := 51) hx hb dX4_write_4 (by rw [c_2_3]; decide) (by rw [c_2_3]; decide) (by rw [c_2_3]; decide) (by decide) ?_
      have h := h.1 c_2_3
      refine lv_aload_n hx hb dX4_write_51 rfl (lv_at hl 0 rfl) ?_
      refine lv_iload_n hx hb dX4_write_52 rfl (lv_at hl 1 rfl) ?_
      refine cSI ksX4_35 hC (m_X10_held l x1 h) rfl rfl ⟨(show 0 + 1 ≤ 8 * (d + 1) + (10 + 0) by omega), (show 8 + (1 + 11) + (0) ≤ 200 * (d + 1) + (300 + 0) by omega)⟩ rfl hl.1 (Nat.le_of_ble_eq_true rfl) dX4_write_53 ⟨Nat.zero_le _, Nat.zero_le _⟩ rfl ?_
      intro r_6 h
      refine cVVwe kmX4_41 hC hw hE (m_X4_writeName l D cI cC cZ cJ ad N ea n r_6 G h) rfl rfl ⟨(show 2 + 1 ≤ 8 * (d + 1) + (10 + 0) by omega), (show 8 + (3 + 11) + (42) ≤ 200 * (d + 1) + (300 + 0) by omega)⟩ (recvW hw rfl 18 rfl) rfl hl.1 (Nat.le_of_ble_eq_true rfl) dX4_write_56 ⟨Nat.zero_le _, Nat.zero_le _⟩ rfl ?_
      intro g_8 H locs h hw
      refine lv_goto (tgt := 98) hx hb dX4_write_59 (by decide) ?_
      exact rtV (wf := (fun u : SG => (wT ad cI cC cZ cJ N u))) g_8 hC hr hlk hw h dX4_write_98
    have h := h.2
    by_cases c_2_4 : r_1 = (4 : Int32)
    · refine lv_tableIn (off := 58) (tgt := 62) hx hb dX4_write_4 (by rw [c_2_4]; decide) (by rw [c_2_4]; decide) (by rw [c_2_4]; decide) (by decide) ?_
      have h := h.1 c_2_4
      refine lv_aload_n hx hb dX4_write_62 rfl (lv_at hl 0 rfl) ?_
      refine lv_iload_n hx hb dX4_write_63 rfl (lv_at hl 1 rfl) ?_
      refine lv_iload_n hx hb dX4_write_64 rfl (lv_at hl 2 rfl) ?_
      refine cVVwe kmX4_44 hC hw hE (m_X4_writeList l D cI cC cZ cJ ad N ea n d _ (fun a b G p hp => ih a b G hp) x1 x2 G h) rfl rfl ⟨(show 8 * d + (10 + 1) + 1 ≤ 8 * (d + 1) + (10 + 0) by omega), (show 8 + (5 + 11) + (200 * d + (300 + 22)) ≤ 200 * (d + 1) + (300 + 0) by omega)⟩ (recvW hw rfl 18 rfl) rfl hl.1 (Nat.le_of_ble_eq_true rfl) dX4_write_65 ⟨Nat.zero_le _, Nat.zero_le _⟩ rfl ?_
      intro g_10 H locs h hw
      refine lv_goto (tgt := 98) hx hb dX4_write_68 (by decide) ?_
      exact rtV (wf := (fun u : SG => (wT ad cI cC cZ cJ N u))) g_10 hC hr hlk hw h dX4_write_98
    have h := h.2
    by_cases c_2_5 : r_1 = (5 : Int32)
    · refine lv_tableIn (off := 67) (tgt := 71) hx hb dX4_write_4 (by rw [c_2_5]; decide) (by rw [c_2_5]; decide) (by rw [c_2_5]; decide) (by decide) ?_
      have h := h.1 c_2_5
      refine lv_aload_n hx hb dX4_write_71 rfl (lv_at hl 0 rfl) ?_
      refine lv_iload_n hx hb dX4_write_72 rfl (lv_at hl 1 rfl) ?_
      refine lv_iload_n hx hb dX4_write_73 rfl (lv_at hl 2 rfl) ?_
      refine cVVwe kmX4_48 hC hw hE (m_X4_writeVector l D cI cC cZ cJ ad N ea n d _ (fun a b G p hp => ih a b G hp) x1 x2 G h) rfl rfl ⟨(show 8 * d + (10 + 1) + 1 ≤ 8 * (d + 1) + (10 + 0) by omega), (show 8 + (5 + 11) + (200 * d + (300 + 22)) ≤ 200 * (d + 1) + (300 + 0) by omega)⟩ (recvW hw rfl 18 rfl) rfl hl.1 (Nat.le_of_ble_eq_true rfl) dX4_write_74 ⟨Nat.zero_le _, Nat.zero_le _⟩ rfl ?_
      intro g_12 H locs h hw
      refine lv_goto (tgt := 98) hx hb dX4_write_77 (by decide) ?_
      exact rtV (wf := (fun u : SG => (wT ad cI cC cZ cJ N u))) g_12 hC hr hlk hw h dX4_write_98
    have h := h.2
    by_cases c_2_6 : r_1 = (6 : Int32)
    · refine lv_tableIn (off := 76) (tgt := 80) hx hb dX4_write_4 (by rw [c_2_6]; decide) (by rw [c_2_6]; decide) (by rw [c_2_6]; decide) (by decide) ?_
      have h := h.1 c_2_6
      refine lv_aload_n hx hb dX4_write_80 rfl (lv_at hl 0 rfl) ?_
      refine gt (v := .ref (ad 16)) kfX4_19 18 hC hw rfl rfl dX4_write_81 ?_
      refine lv_bipush (v := (35 : Int32)) hx hb dX4_write_84 (by decide) ?_
      refine eV_wT_wQu_16 kmX4_23 hC hw (m_X5_add l D cI cC cZ cJ (fun j => ad (16 + j)) 200 (35 : Int32) (G 6) h) rfl rfl ⟨(show 0 + 1 ≤ 8 * (d + 1) + (10 + 0) by omega), (show 8 + (3 + 11) + (0) ≤ 200 * (d + 1) + (300 + 0) by omega)⟩ rfl hl.1 (Nat.le_of_ble_eq_true rfl) dX4_write_86 ⟨Nat.zero_le _, Nat.zero_le _⟩ rfl ?_
      intro u_15 g_14 H locs eg_14 h hw
      have h := h g_14 eg_14
      refine lv_goto (tgt := 98) hx hb dX4_write_89 (by decide) ?_
      exact rtV (wf := (fun u : SG => (wT ad cI cC cZ cJ N u))) g_14 hC hr hlk hw h dX4_write_98
    have h := h.2
    have nc_2_2 := lv_neT c_2_2 (a := 2) (by decide)
    have nc_2_3 := lv_neT c_2_3 (a := 3) (by decide)
    have nc_2_4 := lv_neT c_2_4 (a := 4) (by decide)
    have nc_2_5 := lv_neT c_2_5 (a := 5) (by decide)
    have nc_2_6 := lv_neT c_2_6 (a := 6) (by decide)
    refine lv_tableOut (tgt := 92) hx hb dX4_write_4 (by omega) (by decide) ?_
    have h := h c_2_2 c_2_3 c_2_4 c_2_5 c_2_6
    refine lv_aload_n hx hb dX4_write_92 rfl (lv_at hl 0 rfl) ?_
    refine va_ldcS hx hb hC.2.2.2.1 hE.2.2.2.2.2.2.2.2.1.2.2.2.1 dX4_write_93 ?_
    refine cVVwe kmX4_53 hC hw hE (m_X4_writeText l D cI cC cZ cJ ad N ea n 35 G h) rfl rfl ⟨(show 4 + 1 ≤ 8 * (d + 1) + (10 + 0) by omega), (show 8 + (3 + 11) + (85) ≤ 200 * (d + 1) + (300 + 0) by omega)⟩ (recvW hw rfl 18 rfl) rfl hl.1 (Nat.le_of_ble_eq_true rfl) dX4_write_95 ⟨Nat.zero_le _, Nat.zero_le _⟩ rfl ?_
    intro g_17 H locs h hw
    exact rtV (wf := (fun u : SG => (wT ad cI cC cZ cJ N u))) g_17 hC hr hlk hw h dX4_write_98
def V_X4_endLine (N : Nat) (G : SG) (post : SG → Prop) : Prop := V_X5_add 200 (10 : Int32) (G 6) (fun u_3 => ∀ g_2 : SG, g_2 = uo G 6 u_3 → post g_2)
abbrev RM_X4_endLine : Room := { frames := 1, cells := 0, slots := 0, locals := 22 }
set_option maxHeartbeats 4000000 in
set_option maxRecDepth 100000 in
theorem m_X4_endLine (l : Launch) (D : va_G) (cI cC cZ cJ : ClassId) (ad : Nat → Nat) (N : Nat) (ea : Nat → Nat → Nat) (G : SG) {post : SG → Prop} (h : V_X4_endLine N G post) : MetVE ea l yX4_endLine cX4_endLine 1 RM_X4_endLine D (ty4 cI cC cZ cJ) (wT ad cI cC cZ cJ N G) [.ref (ad 18)] (fun u : SG => (wT ad cI cC cZ cJ N u)) post := by
  refine mkVE (by decide) (Nat.le_of_ble_eq_true rfl) ?_
  intro p e s m args below meth c A ls hC hr hlk hw hE hl
  have hx := hC.1
  have hb := hC.2.1
  have hl : lv_has ls 1 [(0, .ref (ad 18))] := hl
  unfold V_X4_endLine at h
  refine lv_aload_n hx hb dX4_endLine_0 rfl (lv_at hl 0 rfl) ?_
  refine gt (v := .ref (ad 16)) kfX4_19 18 hC hw rfl rfl dX4_endLine_1 ?_
  refine lv_bipush (v := (10 : Int32)) hx hb dX4_endLine_4 (by decide) ?_
  refine eV_wT_wQu_16 kmX4_23 hC hw (m_X5_add l D cI cC cZ cJ (fun j => ad (16 + j)) 200 (10 : Int32) (G 6) h) rfl rfl ⟨by decide, by decide⟩ rfl hl.1 (Nat.le_of_ble_eq_true rfl) dX4_endLine_6 ⟨Nat.zero_le _, Nat.zero_le _⟩ rfl ?_
  intro u_3 g_2 H locs eg_2 h hw
  have h := h g_2 eg_2
  exact rtV (wf := (fun u : SG => (wT ad cI cC cZ cJ N u))) g_2 hC hr hlk hw h dX4_endLine_9
