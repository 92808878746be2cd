def V_X11_isWornOut (N : Nat) (G : SG) (post : Int32 → SG → Prop) : Prop := (((G 0 0 0) < (512 : Int32) → ∀ g_2 : SG, g_2 = uo G 0 (us (G 0) 0 ((G 0 0 0) + (1 : Int32))) → post (0 : Int32) g_2) ∧ (¬ (G 0 0 0) < (512 : Int32) → post (1 : Int32) G))
abbrev RM_X11_isWornOut : Room := { frames := 0, cells := 0, slots := 0, locals := 0 }
set_option maxHeartbeats 4000000 in
set_option maxRecDepth 100000 in
theorem m_X11_isWornOut (l : Launch) (D : va_G) (cI cC cZ cJ : ClassId) (ad : Nat → Nat) (N : Nat) (ea : Nat → Nat → Nat) (G : SG) {post : Int32 → SG → Prop} (h : V_X11_isWornOut N G post) : MetIE ea l yX11_isWornOut cX11_isWornOut 1 .boolean RM_X11_isWornOut D (ty4 cI cC cZ cJ) (wT ad cI cC cZ cJ N G) [.ref (ad 0)] (fun u : SG => (wT ad cI cC cZ cJ N u)) post := by
  refine mkIE (by decide) (Nat.le_of_ble_eq_true rfl) ?_
  intro p e s m args below meth c A ls hC hr hlk hw hE hl
  have hx := hC.1
  have hb := hC.2.1
  have hl : lv_has ls 1 [(0, .ref (ad 0))] := hl
  unfold V_X11_isWornOut at h
  refine lv_aload_n hx hb dX11_isWornOut_0 rfl (lv_at hl 0 rfl) ?_
  refine gt (v := .int (G 0 0 0)) kfX11_177 0 hC hw rfl rfl dX11_isWornOut_1 ?_
  refine lv_sipush (v := (512 : Int32)) hx hb dX11_isWornOut_4 (by decide) ?_
  refine lv_icmp_lt (tgt := 12) hx hb dX11_isWornOut_7 (by decide) (fun c_1 => ?_) (fun c_1 => ?_)
  · have h := h.1 c_1
    refine lv_aload_n hx hb dX11_isWornOut_12 rfl (lv_at hl 0 rfl) ?_
    refine lv_dup hx hb dX11_isWornOut_13 rfl ?_
    refine gt (v := .int (G 0 0 0)) kfX11_177 0 hC hw rfl rfl dX11_isWornOut_14 ?_
    refine lv_iconst (v := (1 : Int32)) hx hb dX11_isWornOut_17 (by decide) ?_
    refine lv_iadd hx hb dX11_isWornOut_18 ?_
    refine pwT_0_6 kpX11_177 hC hw dX11_isWornOut_19 (fun H locs g_2 eg_2 hw => ?_)
    have h := h g_2 eg_2
    refine lv_iconst (v := (0 : Int32)) hx hb dX11_isWornOut_22 (by decide) ?_
    exact rtI (wf := (fun u : SG => (wT ad cI cC cZ cJ N u))) g_2 hC hr hlk hw (by decide) h dX11_isWornOut_23
  · have h := h.2 c_1
    refine lv_iconst (v := (1 : Int32)) hx hb dX11_isWornOut_10 (by decide) ?_
    exact rtI (wf := (fun u : SG => (wT ad cI cC cZ cJ N u))) G hC hr hlk hw (by decide) h dX11_isWornOut_11
def V_X11_cancel (N : Nat) (G : SG) (post : Int32 → SG → Prop) : Prop := V_X11_isWornOut N  G (fun r_1 g_2 => ((r_1 = 0 → V_X6_drop N  g_2 (fun r_4 g_5 => post r_4 g_5)) ∧ (¬ r_1 = 0 → post (0 : Int32) g_2)))
abbrev RM_X11_cancel : Room := { frames := 2, cells := 0, slots := 0, locals := 41 }
set_option maxHeartbeats 4000000 in
set_option maxRecDepth 100000 in
theorem m_X11_cancel (l : Launch) (D : va_G) (cI cC cZ cJ : ClassId) (ad : Nat → Nat) (N : Nat) (ea : Nat → Nat → Nat) (G : SG) {post : Int32 → SG → Prop} (h : V_X11_cancel N G post) : MetIE ea l yX11_cancel cX11_cancel 1 .int RM_X11_cancel D (ty4 cI cC cZ cJ) (wT ad cI cC cZ cJ N G) [.ref (ad 0)] (fun u : SG => (wT ad cI cC cZ cJ N u)) post := by
  refine mkIE (by decide) (Nat.le_of_ble_eq_true rfl) ?_
  intro p e s m args below meth c A ls hC hr hlk hw hE hl
  have hx := hC.1
  have hb := hC.2.1
  have hl : lv_has ls 1 [(0, .ref (ad 0))] := hl
  unfold V_X11_cancel at h
  refine lv_aload_n hx hb dX11_cancel_0 rfl (lv_at hl 0 rfl) ?_
  refine cVIwe kmX11_64 hC hw hE (m_X11_isWornOut l D cI cC cZ cJ ad N ea  G h) rfl rfl ⟨by decide, by decide⟩ (recvW hw rfl 0 rfl) rfl hl.1 (Nat.le_of_ble_eq_true rfl) dX11_cancel_1 ⟨Nat.zero_le _, Nat.zero_le _⟩ rfl ?_
  intro r_1 g_2 H locs h hw
  refine lv_if_eq (tgt := 11) hx hb dX11_cancel_4 (by decide) (fun c_3 => ?_) (fun c_3 => ?_)
  · have h := h.1 c_3
    refine lv_aload_n hx hb dX11_cancel_11 rfl (lv_at hl 0 rfl) ?_
    refine gt (v := .ref (ad 8)) kfX11_36 0 hC hw rfl rfl dX11_cancel_12 ?_
    refine cVIwe kmX11_103 hC hw hE (m_X6_drop l D cI cC cZ cJ ad N ea  g_2 h) rfl rfl ⟨by decide, by decide⟩ (recvW hw rfl 8 rfl) rfl hl.1 (Nat.le_of_ble_eq_true rfl) dX11_cancel_15 ⟨Nat.zero_le _, Nat.zero_le _⟩ rfl ?_
    intro r_4 g_5 H locs h hw
    exact rtI (wf := (fun u : SG => (wT ad cI cC cZ cJ N u))) g_5 hC hr hlk hw rfl h dX11_cancel_18
  · have h := h.2 c_3
    refine lv_iconst (v := (0 : Int32)) hx hb dX11_cancel_7 (by decide) ?_
    refine lv_goto (tgt := 18) hx hb dX11_cancel_8 (by decide) ?_
    exact rtI (wf := (fun u : SG => (wT ad cI cC cZ cJ N u))) g_2 hC hr hlk hw rfl h dX11_cancel_18
def V_X11_collect (N : Nat) (n : Nat) (G : SG) (post : Int32 → SG → Prop) : Prop := V_X11_isWornOut N  G (fun r_1 g_2 => ((r_1 = 0 → V_X7_keepLive N n  g_2 (fun g_5 => post (g_5 2 0 8) g_5)) ∧ (¬ r_1 = 0 → post (0 : Int32) g_2)))
abbrev RM_X11_collect : Room := { frames := 6, cells := 0, slots := 0, locals := 134 }
set_option maxHeartbeats 4000000 in
set_option maxRecDepth 100000 in
theorem m_X11_collect (l : Launch) (D : va_G) (cI cC cZ cJ : ClassId) (ad : Nat → Nat) (N : Nat) (ea : Nat → Nat → Nat) (n : Nat) (G : SG) {post : Int32 → SG → Prop} (h : V_X11_collect N n G post) : MetIE ea l yX11_collect cX11_collect 1 .int RM_X11_collect D (ty4 cI cC cZ cJ) (wT ad cI cC cZ cJ N G) [.ref (ad 0)] (fun u : SG => (wT ad cI cC cZ cJ N u)) post := by
  refine mkIE (by decide) (Nat.le_of_ble_eq_true rfl) ?_
  intro p e s m args below meth c A ls hC hr hlk hw hE hl
  have hx := hC.1
  have hb := hC.2.1
  have hl : lv_has ls 1 [(0, .ref (ad 0))] := hl
  unfold V_X11_collect at h
  refine lv_aload_n hx hb dX11_collect_0 rfl (lv_at hl 0 rfl) ?_
  refine cVIwe kmX11_64 hC hw hE (m_X11_isWornOut l D cI cC cZ cJ ad N ea  G h) rfl rfl ⟨by decide, by decide⟩ (recvW hw rfl 0 rfl) rfl hl.1 (Nat.le_of_ble_eq_true rfl) dX11_collect_1 ⟨Nat.zero_le _, Nat.zero_le _⟩ rfl ?_
  intro r_1 g_2 H locs h hw
  refine lv_if_eq (tgt := 9) hx hb dX11_collect_4 (by decide) (fun c_3 => ?_) (fun c_3 => ?_)
  · have h := h.1 c_3
    refine lv_aload_n hx hb dX11_collect_9 rfl (lv_at hl 0 rfl) ?_
    refine gt (v := .ref (ad 13)) kfX11_60 0 hC hw rfl rfl dX11_collect_10 ?_
    refine cVVwe kmX11_134 hC hw hE (m_X7_keepLive l D cI cC cZ cJ ad N ea n  g_2 h) rfl rfl ⟨by decide, by decide⟩ (recvW hw rfl 13 rfl) rfl hl.1 (Nat.le_of_ble_eq_true rfl) dX11_collect_13 ⟨Nat.zero_le _, Nat.zero_le _⟩ rfl ?_
    intro g_5 H locs h hw
    refine lv_aload_n hx hb dX11_collect_16 rfl (lv_at hl 0 rfl) ?_
    refine gt (v := .ref (ad 6)) kfX11_27 0 hC hw rfl rfl dX11_collect_17 ?_
    refine gt (v := .int (g_5 2 0 8)) kfX11_137 6 hC hw rfl rfl dX11_collect_20 ?_
    exact rtI (wf := (fun u : SG => (wT ad cI cC cZ cJ N u))) g_5 hC hr hlk hw rfl h dX11_collect_23
  · have h := h.2 c_3
    refine lv_iconst (v := (0 : Int32)) hx hb dX11_collect_7 (by decide) ?_
    exact rtI (wf := (fun u : SG => (wT ad cI cC cZ cJ N u))) g_2 hC hr hlk hw rfl h dX11_collect_8
def V_X11_raise (px : String → Prop) (x0 : Int32) (post : Prop) : Prop := ((x0 = (1 : Int32) → px "java/lang/IllegalArgumentException") ∧ (x0 = (2 : Int32) → px "java/lang/IllegalStateException") ∧ (x0 = (3 : Int32) → px "java/util/NoSuchElementException") ∧ (x0 = (4 : Int32) → px "java/lang/UnsupportedOperationException") ∧ (x0 = (5 : Int32) → px "java/lang/ArithmeticException") ∧ (x0 = (6 : Int32) → px "java/lang/IndexOutOfBoundsException") ∧ (¬ x0 = (1 : Int32) → ¬ x0 = (2 : Int32) → ¬ x0 = (3 : Int32) → ¬ x0 = (4 : Int32) → ¬ x0 = (5 : Int32) → ¬ x0 = (6 : Int32) → post))
abbrev RM_X11_raise : Room := { frames := 6, cells := 1, slots := 6, locals := 90 }
set_option maxHeartbeats 4000000 in
set_option maxRecDepth 100000 in
theorem m_X11_raise (l : Launch) (D : va_G) (cI cC cZ cJ : ClassId) (px : String → Prop) (ea : Nat → Nat → Nat) (x0 : Int32) {post : Prop} (hlt : l.stackTraces = false) (h : V_X11_raise px x0 post) : MetVX ea l yX11_raise cX11_raise 1 RM_X11_raise D (ty4 cI cC cZ cJ) ([] : va_W) [.int x0] (fun _ : Unit => ([] : va_W)) (fun (_ : Unit) => post) (fun E (_ : Unit) => px E) := by
  refine mkVX (by decide) (Nat.le_of_ble_eq_true rfl) ?_
  intro p e s m args below meth c A ls hC hr hlk htab hw hE hl
  have hx := hC.1
  have hb := hC.2.1
  have hl : lv_has ls 1 [(0, .int x0)] := hl
  unfold V_X11_raise at h
  refine lv_iload_n hx hb dX11_raise_0 rfl (lv_at hl 0 rfl) ?_
  by_cases c_1_1 : x0 = (1 : Int32)
  · refine lv_tableIn (off := 39) (tgt := 40) hx hb dX11_raise_1 (by rw [c_1_1]; decide) (by rw [c_1_1]; decide) (by rw [c_1_1]; decide) (by decide) ?_
    have h := h.1 c_1_1
    exact thX (wf := (fun _ : Unit => ([] : va_W))) () kt_72_76 hlt hC hlk htab hw hE hE.2.2.2.2.2.2.2.2.1.2.2.2.2.2.2.2.2.2.2.2.1 (hE.2.2.2.2.2.2.2.2.1.2.2.2.2.2.1 (180, "the form is ill-formed") (by decide)) hl.1 dX11_raise_40 dX11_raise_43 dX11_raise_44 dX11_raise_46 dX11_raise_49 (Nat.le_of_ble_eq_true rfl) (Nat.le_of_ble_eq_true rfl) (Nat.le_of_ble_eq_true rfl) (Nat.le_of_ble_eq_true rfl) h
  have h := h.2
  by_cases c_1_2 : x0 = (2 : Int32)
  · refine lv_tableIn (off := 49) (tgt := 50) hx hb dX11_raise_1 (by rw [c_1_2]; decide) (by rw [c_1_2]; decide) (by rw [c_1_2]; decide) (by decide) ?_
    have h := h.1 c_1_2
    exact thX (wf := (fun _ : Unit => ([] : va_W))) () kt_182_186 hlt hC hlk htab hw hE hE.2.2.2.2.2.2.2.2.1.2.2.2.2.2.2.2.2.2.2.2.2.1 (hE.2.2.2.2.2.2.2.2.1.2.2.2.2.2.1 (184, "too many steps, calls or words") (by decide)) hl.1 dX11_raise_50 dX11_raise_53 dX11_raise_54 dX11_raise_56 dX11_raise_59 (Nat.le_of_ble_eq_true rfl) (Nat.le_of_ble_eq_true rfl) (Nat.le_of_ble_eq_true rfl) (Nat.le_of_ble_eq_true rfl) h
  have h := h.2
  by_cases c_1_3 : x0 = (3 : Int32)
  · refine lv_tableIn (off := 59) (tgt := 60) hx hb dX11_raise_1 (by rw [c_1_3]; decide) (by rw [c_1_3]; decide) (by rw [c_1_3]; decide) (by decide) ?_
    have h := h.1 c_1_3
    exact thXX (wf := (fun _ : Unit => ([] : va_W))) () (by decide +kernel) (by decide +kernel) (by decide +kernel) (by decide +kernel) kt_110_114 hlt hC hlk htab hw hE hE.2.2.2.2.2.2.2.2.1.2.2.2.2.2.2.2.2.2.2.2.2.2.1 (hE.2.2.2.2.2.2.2.2.1.2.2.2.2.2.1 (187, "no value, or no catch") (by decide)) hl.1 dX11_raise_60 dX11_raise_63 dX11_raise_64 dX11_raise_66 dX11_raise_69 (Nat.le_of_ble_eq_true rfl) (Nat.le_of_ble_eq_true rfl) (Nat.le_of_ble_eq_true rfl) (Nat.le_of_ble_eq_true rfl) h
  have h := h.2
  by_cases c_1_4 : x0 = (4 : Int32)
  · refine lv_tableIn (off := 69) (tgt := 70) hx hb dX11_raise_1 (by rw [c_1_4]; decide) (by rw [c_1_4]; decide) (by rw [c_1_4]; decide) (by decide) ?_
    have h := h.1 c_1_4
    exact thX (wf := (fun _ : Unit => ([] : va_W))) () kt_126_130 hlt hC hlk htab hw hE hE.2.2.2.2.2.2.2.2.1.2.2.2.2.2.2.2.2.2.2.2.2.2.2.1 (hE.2.2.2.2.2.2.2.2.1.2.2.2.2.2.1 (189, "a value of another kind is needed") (by decide)) hl.1 dX11_raise_70 dX11_raise_73 dX11_raise_74 dX11_raise_76 dX11_raise_79 (Nat.le_of_ble_eq_true rfl) (Nat.le_of_ble_eq_true rfl) (Nat.le_of_ble_eq_true rfl) (Nat.le_of_ble_eq_true rfl) h
  have h := h.2
  by_cases c_1_5 : x0 = (5 : Int32)
  · refine lv_tableIn (off := 79) (tgt := 80) hx hb dX11_raise_1 (by rw [c_1_5]; decide) (by rw [c_1_5]; decide) (by rw [c_1_5]; decide) (by decide) ?_
    have h := h.1 c_1_5
    exact thX (wf := (fun _ : Unit => ([] : va_W))) () kt_191_195 hlt hC hlk htab hw hE hE.2.2.2.2.2.2.2.2.1.2.2.2.2.2.2.2.2.2.2.2.2.2.2.2.1 (hE.2.2.2.2.2.2.2.2.1.2.2.2.2.2.1 (193, "out of range, or divided by 0") (by decide)) hl.1 dX11_raise_80 dX11_raise_83 dX11_raise_84 dX11_raise_86 dX11_raise_89 (Nat.le_of_ble_eq_true rfl) (Nat.le_of_ble_eq_true rfl) (Nat.le_of_ble_eq_true rfl) (Nat.le_of_ble_eq_true rfl) h
  have h := h.2
  by_cases c_1_6 : x0 = (6 : Int32)
  · refine lv_tableIn (off := 89) (tgt := 90) hx hb dX11_raise_1 (by rw [c_1_6]; decide) (by rw [c_1_6]; decide) (by rw [c_1_6]; decide) (by decide) ?_
    have h := h.1 c_1_6
    exact thX (wf := (fun _ : Unit => ([] : va_W))) () kt_196_200 hlt hC hlk htab hw hE hE.2.2.2.2.2.2.2.2.1.2.2.2.2.2.2.2.2.2.2.2.2.2.2.2.2 (hE.2.2.2.2.2.2.2.2.1.2.2.2.2.2.1 (198, "no such index") (by decide)) hl.1 dX11_raise_90 dX11_raise_93 dX11_raise_94 dX11_raise_96 dX11_raise_99 (Nat.le_of_ble_eq_true rfl) (Nat.le_of_ble_eq_true rfl) (Nat.le_of_ble_eq_true rfl) (Nat.le_of_ble_eq_true rfl) h
  have h := h.2
  have nc_1_1 := lv_neT c_1_1 (a := 1) (by decide)
  have nc_1_2 := lv_neT c_1_2 (a := 2) (by decide)
  have nc_1_3 := lv_neT c_1_3 (a := 3) (by decide)
  have nc_1_4 := lv_neT c_1_4 (a := 4) (by decide)
  have nc_1_5 := lv_neT c_1_5 (a := 5) (by decide)
  have nc_1_6 := lv_neT c_1_6 (a := 6) (by decide)
  refine lv_tableOut (tgt := 100) hx hb dX11_raise_1 (by omega) (by decide) ?_
  have h := h c_1_1 c_1_2 c_1_3 c_1_4 c_1_5 c_1_6
  exact rtVX (wf := (fun _ : Unit => ([] : va_W))) () hC hr hlk hw h (Nat.le_of_ble_eq_true rfl) (Nat.le_of_ble_eq_true rfl) dX11_raise_100
def V_X11_take (N : Nat) (px : String → SG → Prop) (G : SG) (post : Int32 → SG → Prop) : Prop := V_X11_isWornOut N  G (fun r_1 g_2 => ((r_1 = 0 → ((¬ (g_2 6 0 1) = 0 → V_X5_removeOldest 200  (g_2 6) (fun r_5 u_7 => ∀ g_6 : SG, g_6 = uo g_2 6 u_7 → post r_5 g_6)) ∧ ((g_2 6 0 1) = 0 → px "java/util/NoSuchElementException" g_2))) ∧ (¬ r_1 = 0 → post (0 : Int32) g_2)))
abbrev RM_X11_take : Room := { frames := 6, cells := 1, slots := 6, locals := 90 }
set_option maxHeartbeats 4000000 in
set_option maxRecDepth 100000 in
theorem m_X11_take (l : Launch) (D : va_G) (cI cC cZ cJ : ClassId) (ad : Nat → Nat) (N : Nat) (px : String → SG → Prop) (ea : Nat → Nat → Nat) (G : SG) {post : Int32 → SG → Prop} (hlt : l.stackTraces = false) (h : V_X11_take N px G post) : MetIX ea l yX11_take cX11_take 1 .int RM_X11_take D (ty4 cI cC cZ cJ) (wT ad cI cC cZ cJ N G) [.ref (ad 0)] (fun u : SG => (wT ad cI cC cZ cJ N u)) post px := by
  refine mkIX (by decide) (Nat.le_of_ble_eq_true rfl) ?_
  intro p e s m args below meth c A ls hC hr hlk htab hw hE hl
  have hx := hC.1
  have hb := hC.2.1
  have hl : lv_has ls 1 [(0, .ref (ad 0))] := hl
  unfold V_X11_take at h
  refine lv_aload_n hx hb dX11_take_0 rfl (lv_at hl 0 rfl) ?_
  refine cVIwe kmX11_64 hC hw hE (m_X11_isWornOut l D cI cC cZ cJ ad N ea  G h) rfl rfl ⟨by decide, by decide⟩ (recvW hw rfl 0 rfl) rfl hl.1 (Nat.le_of_ble_eq_true rfl) dX11_take_1 ⟨Nat.le_of_ble_eq_true rfl, Nat.le_of_ble_eq_true rfl⟩ rfl ?_
  intro r_1 g_2 H locs h hw
  refine lv_if_eq (tgt := 9) hx hb dX11_take_4 (by decide) (fun c_3 => ?_) (fun c_3 => ?_)
  · have h := h.1 c_3
    refine lv_aload_n hx hb dX11_take_9 rfl (lv_at hl 0 rfl) ?_
    refine gt (v := .ref (ad 16)) kfX11_47 0 hC hw rfl rfl dX11_take_10 ?_
    refine gt (v := .int (g_2 6 0 1)) kfX11_107 16 hC hw rfl rfl dX11_take_13 ?_
    refine lv_if_ne (tgt := 29) hx hb dX11_take_16 (by decide) (fun c_4 => ?_) (fun c_4 => ?_)
    · have h := h.1 c_4
      refine lv_aload_n hx hb dX11_take_29 rfl (lv_at hl 0 rfl) ?_
      refine gt (v := .ref (ad 16)) kfX11_47 0 hC hw rfl rfl dX11_take_30 ?_
      refine eI_wT_wQu_16 kmX11_115 hC hw (m_X5_removeOldest l D cI cC cZ cJ (fun j => ad (16 + j)) 200  (g_2 6) h) rfl rfl ⟨by decide, by decide⟩ rfl hl.1 (Nat.le_of_ble_eq_true rfl) dX11_take_33 ⟨Nat.le_of_ble_eq_true rfl, Nat.le_of_ble_eq_true rfl⟩ rfl ?_
      intro r_5 u_7 g_6 H locs eg_6 h hw
      have h := h g_6 eg_6
      exact rtIX (wf := (fun u : SG => (wT ad cI cC cZ cJ N u))) g_6 hC hr hlk hw rfl h (Nat.le_of_ble_eq_true rfl) (Nat.le_of_ble_eq_true rfl) dX11_take_36
    · have h := h.2 c_4
      exact thXX (wf := (fun u : SG => (wT ad cI cC cZ cJ N u))) g_2 (by decide +kernel) (by decide +kernel) (by decide +kernel) (by decide +kernel) kt_110_114 hlt hC hlk htab hw hE hE.2.2.2.2.2.2.2.2.1.2.2.2.2.2.2.2.2.2.2.2.2.2.1 (hE.2.2.2.2.2.2.2.2.1.2.2.2.2.2.1 (112, "no output") (by decide)) hl.1 dX11_take_19 dX11_take_22 dX11_take_23 dX11_take_25 dX11_take_28 (Nat.le_of_ble_eq_true rfl) (Nat.le_of_ble_eq_true rfl) (Nat.le_of_ble_eq_true rfl) (Nat.le_of_ble_eq_true rfl) h
  · have h := h.2 c_3
    refine lv_iconst (v := (0 : Int32)) hx hb dX11_take_7 (by decide) ?_
    exact rtIX (wf := (fun u : SG => (wT ad cI cC cZ cJ N u))) g_2 hC hr hlk hw rfl h (Nat.le_of_ble_eq_true rfl) (Nat.le_of_ble_eq_true rfl) dX11_take_8
def V_X11_give (N : Nat) (px : String → SG → Prop) (x1 : Int32) (G : SG) (post : Int32 → SG → Prop) : Prop := V_X11_isWornOut N  G (fun r_1 g_2 => ((r_1 = 0 → V_X11_isInRange x1 (fun r_4 => ((¬ r_4 = 0 → V_X5_isFull 8  (g_2 5) (fun r_6 u_8 => ∀ g_7 : SG, g_7 = uo g_2 5 u_8 → ((r_6 = 0 → V_X5_add 8 x1 (g_7 5) (fun u_12 => ∀ g_11 : SG, g_11 = uo g_7 5 u_12 → post (g_11 5 0 1) g_11)) ∧ (¬ r_6 = 0 → px "java/lang/UnsupportedOperationException" g_7)))) ∧ (r_4 = 0 → px "java/lang/IllegalArgumentException" g_2)))) ∧ (¬ r_1 = 0 → post (0 : Int32) g_2)))
abbrev RM_X11_give : Room := { frames := 6, cells := 1, slots := 6, locals := 90 }
set_option maxHeartbeats 4000000 in
set_option maxRecDepth 100000 in
theorem m_X11_give (l : Launch) (D : va_G) (cI cC cZ cJ : ClassId) (ad : Nat → Nat) (N : Nat) (px : String → SG → Prop) (ea : Nat → Nat → Nat) (x1 : Int32) (G : SG) {post : Int32 → SG → Prop} (hlt : l.stackTraces = false) (h : V_X11_give N px x1 G post) : MetIX ea l yX11_give cX11_give 2 .int RM_X11_give D (ty4 cI cC cZ cJ) (wT ad cI cC cZ cJ N G) [.ref (ad 0), .int x1] (fun u : SG => (wT ad cI cC cZ cJ N u)) post px := by
  refine mkIX (by decide) (Nat.le_of_ble_eq_true rfl) ?_
  intro p e s m args below meth c A ls hC hr hlk htab hw hE hl
  have hx := hC.1
  have hb := hC.2.1
  have hl : lv_has ls 2 [(0, .ref (ad 0)), (1, .int x1)] := hl
  unfold V_X11_give at h
  refine lv_aload_n hx hb dX11_give_0 rfl (lv_at hl 0 rfl) ?_
  refine cVIwe kmX11_64 hC hw hE (m_X11_isWornOut l D cI cC cZ cJ ad N ea  G h) rfl rfl ⟨by decide, by decide⟩ (recvW hw rfl 0 rfl) rfl hl.1 (Nat.le_of_ble_eq_true rfl) dX11_give_1 ⟨Nat.le_of_ble_eq_true rfl, Nat.le_of_ble_eq_true rfl⟩ rfl ?_
  intro r_1 g_2 H locs h hw
  refine lv_if_eq (tgt := 9) hx hb dX11_give_4 (by decide) (fun c_3 => ?_) (fun c_3 => ?_)
  · have h := h.1 c_3
    refine lv_iload_n hx hb dX11_give_9 rfl (lv_at hl 1 rfl) ?_
    refine cSI ksX11_118 hC (m_X11_isInRange l x1 h) rfl rfl ⟨by decide, by decide⟩ rfl hl.1 (Nat.le_of_ble_eq_true rfl) dX11_give_10 ⟨Nat.le_of_ble_eq_true rfl, Nat.le_of_ble_eq_true rfl⟩ rfl ?_
    intro r_4 h
    refine lv_if_ne (tgt := 26) hx hb dX11_give_13 (by decide) (fun c_5 => ?_) (fun c_5 => ?_)
    · have h := h.1 c_5
      refine lv_aload_n hx hb dX11_give_26 rfl (lv_at hl 0 rfl) ?_
      refine gt (v := .ref (ad 14)) kfX11_43 0 hC hw rfl rfl dX11_give_27 ?_
      refine eI_wT_wQu_14 kmX11_123 hC hw (m_X5_isFull l D cI cC cZ cJ (fun j => ad (14 + j)) 8  (g_2 5) h) rfl rfl ⟨by decide, by decide⟩ rfl hl.1 (Nat.le_of_ble_eq_true rfl) dX11_give_30 ⟨Nat.le_of_ble_eq_true rfl, Nat.le_of_ble_eq_true rfl⟩ rfl ?_
      intro r_6 u_8 g_7 H locs eg_7 h hw
      have h := h g_7 eg_7
      refine lv_if_eq (tgt := 46) hx hb dX11_give_33 (by decide) (fun c_9 => ?_) (fun c_9 => ?_)
      · have h := h.1 c_9
        refine lv_aload_n hx hb dX11_give_46 rfl (lv_at hl 0 rfl) ?_
        refine gt (v := .ref (ad 14)) kfX11_43 0 hC hw rfl rfl dX11_give_47 ?_
        refine lv_iload_n hx hb dX11_give_50 rfl (lv_at hl 1 rfl) ?_
        refine eV_wT_wQu_14 kmX11_131 hC hw (m_X5_add l D cI cC cZ cJ (fun j => ad (14 + j)) 8 x1 (g_7 5) h) rfl rfl ⟨by decide, by decide⟩ rfl hl.1 (Nat.le_of_ble_eq_true rfl) dX11_give_51 ⟨Nat.le_of_ble_eq_true rfl, Nat.le_of_ble_eq_true rfl⟩ rfl ?_
        intro u_12 g_11 H locs eg_11 h hw
        have h := h g_11 eg_11
        refine lv_aload_n hx hb dX11_give_54 rfl (lv_at hl 0 rfl) ?_
        refine gt (v := .ref (ad 14)) kfX11_43 0 hC hw rfl rfl dX11_give_55 ?_
        refine gt (v := .int (g_11 5 0 1)) kfX11_107 14 hC hw rfl rfl dX11_give_58 ?_
        exact rtIX (wf := (fun u : SG => (wT ad cI cC cZ cJ N u))) g_11 hC hr hlk hw rfl h (Nat.le_of_ble_eq_true rfl) (Nat.le_of_ble_eq_true rfl) dX11_give_61
      · have h := h.2 c_9
        exact thX (wf := (fun u : SG => (wT ad cI cC cZ cJ N u))) g_7 kt_126_130 hlt hC hlk htab hw hE hE.2.2.2.2.2.2.2.2.1.2.2.2.2.2.2.2.2.2.2.2.2.2.2.1 (hE.2.2.2.2.2.2.2.2.1.2.2.2.2.2.1 (128, "the input is full") (by decide)) hl.1 dX11_give_36 dX11_give_39 dX11_give_40 dX11_give_42 dX11_give_45 (Nat.le_of_ble_eq_true rfl) (Nat.le_of_ble_eq_true rfl) (Nat.le_of_ble_eq_true rfl) (Nat.le_of_ble_eq_true rfl) h
    · have h := h.2 c_5
      exact thX (wf := (fun u : SG => (wT ad cI cC cZ cJ N u))) g_2 kt_72_76 hlt hC hlk htab hw hE hE.2.2.2.2.2.2.2.2.1.2.2.2.2.2.2.2.2.2.2.2.1 (hE.2.2.2.2.2.2.2.2.1.2.2.2.2.2.1 (121, "number out of range") (by decide)) hl.1 dX11_give_16 dX11_give_19 dX11_give_20 dX11_give_22 dX11_give_25 (Nat.le_of_ble_eq_true rfl) (Nat.le_of_ble_eq_true rfl) (Nat.le_of_ble_eq_true rfl) (Nat.le_of_ble_eq_true rfl) h
  · have h := h.2 c_3
    refine lv_iconst (v := (0 : Int32)) hx hb dX11_give_7 (by decide) ?_
    exact rtIX (wf := (fun u : SG => (wT ad cI cC cZ cJ N u))) g_2 hC hr hlk hw rfl h (Nat.le_of_ble_eq_true rfl) (Nat.le_of_ble_eq_true rfl) dX11_give_8
def V_X11_kind (N : Nat) (px : String → SG → Prop) (x1 : Int32) (G : SG) (post : Int32 → SG → Prop) : Prop := V_X11_isWornOut N  G (fun r_1 g_2 => ((r_1 = 0 → V_X9_has x1 (g_2 1) (fun r_4 u_6 => ∀ g_5 : SG, g_5 = uo g_2 1 u_6 → ((¬ r_4 = 0 → V_X9_word x1 (g_5 1) (fun r_8 u_10 => ∀ g_9 : SG, g_9 = uo g_5 1 u_10 → V_X10_tag r_8 (fun r_11 => post r_11 g_9))) ∧ (r_4 = 0 → px "java/lang/IllegalArgumentException" g_5)))) ∧ (¬ r_1 = 0 → post (0 : Int32) g_2)))
abbrev RM_X11_kind : Room := { frames := 6, cells := 1, slots := 6, locals := 90 }
set_option maxHeartbeats 4000000 in
set_option maxRecDepth 100000 in
theorem m_X11_kind (l : Launch) (D : va_G) (cI cC cZ cJ : ClassId) (ad : Nat → Nat) (N : Nat) (px : String → SG → Prop) (ea : Nat → Nat → Nat) (x1 : Int32) (G : SG) {post : Int32 → SG → Prop} (hlt : l.stackTraces = false) (h : V_X11_kind N px x1 G post) : MetIX ea l yX11_kind cX11_kind 2 .int RM_X11_kind D (ty4 cI cC cZ cJ) (wT ad cI cC cZ cJ N G) [.ref (ad 0), .int x1] (fun u : SG => (wT ad cI cC cZ cJ N u)) post px := by
  refine mkIX (by decide) (Nat.le_of_ble_eq_true rfl) ?_
  intro p e s m args below meth c A ls hC hr hlk htab hw hE hl
  have hx := hC.1
  have hb := hC.2.1
  have hl : lv_has ls 2 [(0, .ref (ad 0)), (1, .int x1)] := hl
  unfold V_X11_kind at h
  refine lv_aload_n hx hb dX11_kind_0 rfl (lv_at hl 0 rfl) ?_
  refine cVIwe kmX11_64 hC hw hE (m_X11_isWornOut l D cI cC cZ cJ ad N ea  G h) rfl rfl ⟨by decide, by decide⟩ (recvW hw rfl 0 rfl) rfl hl.1 (Nat.le_of_ble_eq_true rfl) dX11_kind_1 ⟨Nat.le_of_ble_eq_true rfl, Nat.le_of_ble_eq_true rfl⟩ rfl ?_
  intro r_1 g_2 H locs h hw
  refine lv_if_eq (tgt := 9) hx hb dX11_kind_4 (by decide) (fun c_3 => ?_) (fun c_3 => ?_)
  · have h := h.1 c_3
    refine lv_aload_n hx hb dX11_kind_9 rfl (lv_at hl 0 rfl) ?_
    refine gt (v := .ref (ad 1)) kfX11_10 0 hC hw rfl rfl dX11_kind_10 ?_
    refine lv_iload_n hx hb dX11_kind_13 rfl (lv_at hl 1 rfl) ?_
    refine eI_wT_wSy_1 kmX11_140 hC hw (m_X9_has l D cI cC cZ cJ (fun j => ad (1 + j)) x1 (g_2 1) h) rfl rfl ⟨by decide, by decide⟩ rfl hl.1 (Nat.le_of_ble_eq_true rfl) dX11_kind_14 ⟨Nat.le_of_ble_eq_true rfl, Nat.le_of_ble_eq_true rfl⟩ rfl ?_
    intro r_4 u_6 g_5 H locs eg_5 h hw
    have h := h g_5 eg_5
    refine lv_if_ne (tgt := 30) hx hb dX11_kind_17 (by decide) (fun c_7 => ?_) (fun c_7 => ?_)
    · have h := h.1 c_7
      refine lv_aload_n hx hb dX11_kind_30 rfl (lv_at hl 0 rfl) ?_
      refine gt (v := .ref (ad 1)) kfX11_10 0 hC hw rfl rfl dX11_kind_31 ?_
      refine lv_iload_n hx hb dX11_kind_34 rfl (lv_at hl 1 rfl) ?_
      refine eI_wT_wSy_1 kmX11_95 hC hw (m_X9_word l D cI cC cZ cJ (fun j => ad (1 + j)) x1 (g_5 1) h) rfl rfl ⟨by decide, by decide⟩ rfl hl.1 (Nat.le_of_ble_eq_true rfl) dX11_kind_35 ⟨Nat.le_of_ble_eq_true rfl, Nat.le_of_ble_eq_true rfl⟩ rfl ?_
      intro r_8 u_10 g_9 H locs eg_9 h hw
      have h := h g_9 eg_9
      refine cSI ksX11_98 hC (m_X10_tag l r_8 h) rfl rfl ⟨by decide, by decide⟩ rfl hl.1 (Nat.le_of_ble_eq_true rfl) dX11_kind_38 ⟨Nat.le_of_ble_eq_true rfl, Nat.le_of_ble_eq_true rfl⟩ rfl ?_
      intro r_11 h
      exact rtIX (wf := (fun u : SG => (wT ad cI cC cZ cJ N u))) g_9 hC hr hlk hw rfl h (Nat.le_of_ble_eq_true rfl) (Nat.le_of_ble_eq_true rfl) dX11_kind_41
    · have h := h.2 c_7
      exact thX (wf := (fun u : SG => (wT ad cI cC cZ cJ N u))) g_5 kt_72_76 hlt hC hlk htab hw hE hE.2.2.2.2.2.2.2.2.1.2.2.2.2.2.2.2.2.2.2.2.1 (hE.2.2.2.2.2.2.2.2.1.2.2.2.2.2.1 (143, "no such symbol") (by decide)) hl.1 dX11_kind_20 dX11_kind_23 dX11_kind_24 dX11_kind_26 dX11_kind_29 (Nat.le_of_ble_eq_true rfl) (Nat.le_of_ble_eq_true rfl) (Nat.le_of_ble_eq_true rfl) (Nat.le_of_ble_eq_true rfl) h
  · have h := h.2 c_3
    refine lv_iconst (v := (0 : Int32)) hx hb dX11_kind_7 (by decide) ?_
    exact rtIX (wf := (fun u : SG => (wT ad cI cC cZ cJ N u))) g_2 hC hr hlk hw rfl h (Nat.le_of_ble_eq_true rfl) (Nat.le_of_ble_eq_true rfl) dX11_kind_8
def V_X11_number (N : Nat) (px : String → SG → Prop) (x1 : Int32) (G : SG) (post : Int32 → SG → Prop) : Prop := V_X11_isWornOut N  G (fun r_1 g_2 => ((r_1 = 0 → V_X9_has x1 (g_2 1) (fun r_4 u_6 => ∀ g_5 : SG, g_5 = uo g_2 1 u_6 → ((¬ r_4 = 0 → V_X9_word x1 (g_5 1) (fun r_8 u_10 => ∀ g_9 : SG, g_9 = uo g_5 1 u_10 → V_X10_tag r_8 (fun r_11 => ((r_11 = (2 : Int32) → V_X10_held r_8 (fun r_13 => post r_13 g_9)) ∧ (r_11 = (3 : Int32) → V_X10_held r_8 (fun r_14 => post r_14 g_9)) ∧ (r_11 = (4 : Int32) → px "java/lang/UnsupportedOperationException" g_9) ∧ (r_11 = (5 : Int32) → V_X2_vectorLength N r_8 (g_9 2) (fun r_15 u_17 => ∀ g_16 : SG, g_16 = uo g_9 2 u_17 → post r_15 g_16)) ∧ (¬ r_11 = (2 : Int32) → ¬ r_11 = (3 : Int32) → ¬ r_11 = (4 : Int32) → ¬ r_11 = (5 : Int32) → px "java/lang/UnsupportedOperationException" g_9))))) ∧ (r_4 = 0 → px "java/lang/IllegalArgumentException" g_5)))) ∧ (¬ r_1 = 0 → post (0 : Int32) g_2)))
abbrev RM_X11_number : Room := { frames := 6, cells := 1, slots := 6, locals := 90 }
set_option maxHeartbeats 4000000 in
set_option maxRecDepth 100000 in
theorem m_X11_number (l : Launch) (D : va_G) (cI cC cZ cJ : ClassId) (ad : Nat → Nat) (N : Nat) (px : String → SG → Prop) (ea : Nat → Nat → Nat) (x1 : Int32) (G : SG) {post : Int32 → SG → Prop} (hlt : l.stackTraces = false) (h : V_X11_number N px x1 G post) : MetIX ea l yX11_number cX11_number 3 .int RM_X11_number D (ty4 cI cC cZ cJ) (wT ad cI cC cZ cJ N G) [.ref (ad 0), .int x1] (fun u : SG => (wT ad cI cC cZ cJ N u)) post px := by
  refine mkIX (by decide) (Nat.le_of_ble_eq_true rfl) ?_
  intro p e s m args below meth c A ls hC hr hlk htab hw hE hl
  have hx := hC.1
  have hb := hC.2.1
  have hl : lv_has ls 3 [(0, .ref (ad 0)), (1, .int x1)] := hl
  unfold V_X11_number at h
  refine lv_aload_n hx hb dX11_number_0 rfl (lv_at hl 0 rfl) ?_
  refine cVIwe kmX11_64 hC hw hE (m_X11_isWornOut l D cI cC cZ cJ ad N ea  G h) rfl rfl ⟨by decide, by decide⟩ (recvW hw rfl 0 rfl) rfl hl.1 (Nat.le_of_ble_eq_true rfl) dX11_number_1 ⟨Nat.le_of_ble_eq_true rfl, Nat.le_of_ble_eq_true rfl⟩ rfl ?_
  intro r_1 g_2 H locs h hw
  refine lv_if_eq (tgt := 9) hx hb dX11_number_4 (by decide) (fun c_3 => ?_) (fun c_3 => ?_)
  · have h := h.1 c_3
    refine lv_aload_n hx hb dX11_number_9 rfl (lv_at hl 0 rfl) ?_
    refine gt (v := .ref (ad 1)) kfX11_10 0 hC hw rfl rfl dX11_number_10 ?_
    refine lv_iload_n hx hb dX11_number_13 rfl (lv_at hl 1 rfl) ?_
    refine eI_wT_wSy_1 kmX11_140 hC hw (m_X9_has l D cI cC cZ cJ (fun j => ad (1 + j)) x1 (g_2 1) h) rfl rfl ⟨by decide, by decide⟩ rfl hl.1 (Nat.le_of_ble_eq_true rfl) dX11_number_14 ⟨Nat.le_of_ble_eq_true rfl, Nat.le_of_ble_eq_true rfl⟩ rfl ?_
    intro r_4 u_6 g_5 H locs eg_5 h hw
    have h := h g_5 eg_5
    refine lv_if_ne (tgt := 30) hx hb dX11_number_17 (by decide) (fun c_7 => ?_) (fun c_7 => ?_)
    · have h := h.1 c_7
      refine lv_aload_n hx hb dX11_number_30 rfl (lv_at hl 0 rfl) ?_
      refine gt (v := .ref (ad 1)) kfX11_10 0 hC hw rfl rfl dX11_number_31 ?_
      refine lv_iload_n hx hb dX11_number_34 rfl (lv_at hl 1 rfl) ?_
      refine eI_wT_wSy_1 kmX11_95 hC hw (m_X9_word l D cI cC cZ cJ (fun j => ad (1 + j)) x1 (g_5 1) h) rfl rfl ⟨by decide, by decide⟩ rfl hl.1 (Nat.le_of_ble_eq_true rfl) dX11_number_35 ⟨Nat.le_of_ble_eq_true rfl, Nat.le_of_ble_eq_true rfl⟩ rfl ?_
      intro r_8 u_10 g_9 H locs eg_9 h hw
      have h := h g_9 eg_9
      refine lv_istore_n (lv' := [(2, .int r_8), (0, .ref (ad 0)), (1, .int x1)]) hx hb dX11_number_38 rfl hl (by decide) rfl (fun ls hl => ?_)
      refine lv_iload_n hx hb dX11_number_39 rfl (lv_at hl 0 rfl) ?_
      refine cSI ksX11_98 hC (m_X10_tag l r_8 h) rfl rfl ⟨by decide, by decide⟩ rfl hl.1 (Nat.le_of_ble_eq_true rfl) dX11_number_40 ⟨Nat.le_of_ble_eq_true rfl, Nat.le_of_ble_eq_true rfl⟩ rfl ?_
      intro r_11 h
      by_cases c_12_2 : r_11 = (2 : Int32)
      · refine lv_tableIn (off := 29) (tgt := 72) hx hb dX11_number_43 (by rw [c_12_2]; decide) (by rw [c_12_2]; decide) (by rw [c_12_2]; decide) (by decide) ?_
        have h := h.1 c_12_2
        refine lv_iload_n hx hb dX11_number_72 rfl (lv_at hl 0 rfl) ?_
        refine cSI ksX11_145 hC (m_X10_held l r_8 h) rfl rfl ⟨by decide, by decide⟩ rfl hl.1 (Nat.le_of_ble_eq_true rfl) dX11_number_73 ⟨Nat.le_of_ble_eq_true rfl, Nat.le_of_ble_eq_true rfl⟩ rfl ?_
        intro r_13 h
        exact rtIX (wf := (fun u : SG => (wT ad cI cC cZ cJ N u))) g_9 hC hr hlk hw rfl h (Nat.le_of_ble_eq_true rfl) (Nat.le_of_ble_eq_true rfl) dX11_number_76
      have h := h.2
      by_cases c_12_3 : r_11 = (3 : Int32)
      · refine lv_tableIn (off := 29) (tgt := 72) hx hb dX11_number_43 (by rw [c_12_3]; decide) (by rw [c_12_3]; decide) (by rw [c_12_3]; decide) (by decide) ?_
        have h := h.1 c_12_3
        refine lv_iload_n hx hb dX11_number_72 rfl (lv_at hl 0 rfl) ?_
        refine cSI ksX11_145 hC (m_X10_held l r_8 h) rfl rfl ⟨by decide, by decide⟩ rfl hl.1 (Nat.le_of_ble_eq_true rfl) dX11_number_73 ⟨Nat.le_of_ble_eq_true rfl, Nat.le_of_ble_eq_true rfl⟩ rfl ?_
        intro r_14 h
        exact rtIX (wf := (fun u : SG => (wT ad cI cC cZ cJ N u))) g_9 hC hr hlk hw rfl h (Nat.le_of_ble_eq_true rfl) (Nat.le_of_ble_eq_true rfl) dX11_number_76
      have h := h.2
      by_cases c_12_4 : r_11 = (4 : Int32)
      · refine lv_tableIn (off := 43) (tgt := 86) hx hb dX11_number_43 (by rw [c_12_4]; decide) (by rw [c_12_4]; decide) (by rw [c_12_4]; decide) (by decide) ?_
        have h := h.1 c_12_4
        exact thX (wf := (fun u : SG => (wT ad cI cC cZ cJ N u))) g_9 kt_126_130 hlt hC hlk htab hw hE hE.2.2.2.2.2.2.2.2.1.2.2.2.2.2.2.2.2.2.2.2.2.2.2.1 (hE.2.2.2.2.2.2.2.2.1.2.2.2.2.2.1 (151, "the value has no number") (by decide)) hl.1 dX11_number_86 dX11_number_89 dX11_number_90 dX11_number_92 dX11_number_95 (Nat.le_of_ble_eq_true rfl) (Nat.le_of_ble_eq_true rfl) (Nat.le_of_ble_eq_true rfl) (Nat.le_of_ble_eq_true rfl) h
      have h := h.2
      by_cases c_12_5 : r_11 = (5 : Int32)
      · refine lv_tableIn (off := 34) (tgt := 77) hx hb dX11_number_43 (by rw [c_12_5]; decide) (by rw [c_12_5]; decide) (by rw [c_12_5]; decide) (by decide) ?_
        have h := h.1 c_12_5
        refine lv_aload_n hx hb dX11_number_77 rfl (lv_at hl 1 rfl) ?_
        refine gt (v := .ref (ad 6)) kfX11_27 0 hC hw rfl rfl dX11_number_78 ?_
        refine lv_iload_n hx hb dX11_number_81 rfl (lv_at hl 0 rfl) ?_
        refine eI_wT_wHp_6 kmX11_148 hC hw (m_X2_vectorLength l D cI cC cZ cJ (fun j => ad (6 + j)) N r_8 (g_9 2) h) rfl rfl ⟨by decide, by decide⟩ rfl hl.1 (Nat.le_of_ble_eq_true rfl) dX11_number_82 ⟨Nat.le_of_ble_eq_true rfl, Nat.le_of_ble_eq_true rfl⟩ rfl ?_
        intro r_15 u_17 g_16 H locs eg_16 h hw
        have h := h g_16 eg_16
        exact rtIX (wf := (fun u : SG => (wT ad cI cC cZ cJ N u))) g_16 hC hr hlk hw rfl h (Nat.le_of_ble_eq_true rfl) (Nat.le_of_ble_eq_true rfl) dX11_number_85
      have h := h.2
      have nc_12_2 := lv_neT c_12_2 (a := 2) (by decide)
      have nc_12_3 := lv_neT c_12_3 (a := 3) (by decide)
      have nc_12_4 := lv_neT c_12_4 (a := 4) (by decide)
      have nc_12_5 := lv_neT c_12_5 (a := 5) (by decide)
      refine lv_tableOut (tgt := 86) hx hb dX11_number_43 (by omega) (by decide) ?_
      have h := h c_12_2 c_12_3 c_12_4 c_12_5
      exact thX (wf := (fun u : SG => (wT ad cI cC cZ cJ N u))) g_9 kt_126_130 hlt hC hlk htab hw hE hE.2.2.2.2.2.2.2.2.1.2.2.2.2.2.2.2.2.2.2.2.2.2.2.1 (hE.2.2.2.2.2.2.2.2.1.2.2.2.2.2.1 (151, "the value has no number") (by decide)) hl.1 dX11_number_86 dX11_number_89 dX11_number_90 dX11_number_92 dX11_number_95 (Nat.le_of_ble_eq_true rfl) (Nat.le_of_ble_eq_true rfl) (Nat.le_of_ble_eq_true rfl) (Nat.le_of_ble_eq_true rfl) h
    · have h := h.2 c_7
      exact thX (wf := (fun u : SG => (wT ad cI cC cZ cJ N u))) g_5 kt_72_76 hlt hC hlk htab hw hE hE.2.2.2.2.2.2.2.2.1.2.2.2.2.2.2.2.2.2.2.2.1 (hE.2.2.2.2.2.2.2.2.1.2.2.2.2.2.1 (143, "no such symbol") (by decide)) hl.1 dX11_number_20 dX11_number_23 dX11_number_24 dX11_number_26 dX11_number_29 (Nat.le_of_ble_eq_true rfl) (Nat.le_of_ble_eq_true rfl) (Nat.le_of_ble_eq_true rfl) (Nat.le_of_ble_eq_true rfl) h
  · have h := h.2 c_3
    refine lv_iconst (v := (0 : Int32)) hx hb dX11_number_7 (by decide) ?_
    exact rtIX (wf := (fun u : SG => (wT ad cI cC cZ cJ N u))) g_2 hC hr hlk hw rfl h (Nat.le_of_ble_eq_true rfl) (Nat.le_of_ble_eq_true rfl) dX11_number_8
def V_X11_count (N : Nat) (px : String → SG → Prop) (x1 : Int32) (G : SG) (post : Int32 → SG → Prop) : Prop := V_X11_isWornOut N  G (fun r_1 g_2 => ((r_1 = 0 → ((x1 = (0 : Int32) → post (g_2 2 0 8) g_2) ∧ (x1 = (1 : Int32) → post (g_2 2 0 10) g_2) ∧ (x1 = (2 : Int32) → post (g_2 2 0 9) g_2) ∧ (x1 = (3 : Int32) → post (g_2 4 0 4) g_2) ∧ (x1 = (4 : Int32) → post (g_2 4 0 5) g_2) ∧ (x1 = (5 : Int32) → post (g_2 1 0 0) g_2) ∧ (x1 = (6 : Int32) → post (g_2 3 0 1) g_2) ∧ (x1 = (7 : Int32) → post (g_2 6 0 1) g_2) ∧ (x1 = (8 : Int32) → post (g_2 5 0 1) g_2) ∧ (x1 = (9 : Int32) → post (g_2 4 0 6) g_2) ∧ (x1 = (10 : Int32) → post (g_2 4 0 7) g_2) ∧ (¬ x1 = (0 : Int32) → ¬ x1 = (1 : Int32) → ¬ x1 = (2 : Int32) → ¬ x1 = (3 : Int32) → ¬ x1 = (4 : Int32) → ¬ x1 = (5 : Int32) → ¬ x1 = (6 : Int32) → ¬ x1 = (7 : Int32) → ¬ x1 = (8 : Int32) → ¬ x1 = (9 : Int32) → ¬ x1 = (10 : Int32) → px "java/lang/IllegalArgumentException" g_2))) ∧ (¬ r_1 = 0 → post (0 : Int32) g_2)))
abbrev RM_X11_count : Room := { frames := 6, cells := 1, slots := 6, locals := 90 }
set_option maxHeartbeats 4000000 in
set_option maxRecDepth 100000 in
theorem m_X11_count (l : Launch) (D : va_G) (cI cC cZ cJ : ClassId) (ad : Nat → Nat) (N : Nat) (px : String → SG → Prop) (ea : Nat → Nat → Nat) (x1 : Int32) (G : SG) {post : Int32 → SG → Prop} (hlt : l.stackTraces = false) (h : V_X11_count N px x1 G post) : MetIX ea l yX11_count cX11_count 2 .int RM_X11_count D (ty4 cI cC cZ cJ) (wT ad cI cC cZ cJ N G) [.ref (ad 0), .int x1] (fun u : SG => (wT ad cI cC cZ cJ N u)) post px := by
  refine mkIX (by decide) (Nat.le_of_ble_eq_true rfl) ?_
  intro p e s m args below meth c A ls hC hr hlk htab hw hE hl
  have hx := hC.1
  have hb := hC.2.1
  have hl : lv_has ls 2 [(0, .ref (ad 0)), (1, .int x1)] := hl
  unfold V_X11_count at h
  refine lv_aload_n hx hb dX11_count_0 rfl (lv_at hl 0 rfl) ?_
  refine cVIwe kmX11_64 hC hw hE (m_X11_isWornOut l D cI cC cZ cJ ad N ea  G h) rfl rfl ⟨by decide, by decide⟩ (recvW hw rfl 0 rfl) rfl hl.1 (Nat.le_of_ble_eq_true rfl) dX11_count_1 ⟨Nat.le_of_ble_eq_true rfl, Nat.le_of_ble_eq_true rfl⟩ rfl ?_
  intro r_1 g_2 H locs h hw
  refine lv_if_eq (tgt := 9) hx hb dX11_count_4 (by decide) (fun c_3 => ?_) (fun c_3 => ?_)
  · have h := h.1 c_3
    refine lv_iload_n hx hb dX11_count_9 rfl (lv_at hl 1 rfl) ?_
    by_cases c_4_0 : x1 = (0 : Int32)
    · refine lv_tableIn (off := 58) (tgt := 68) hx hb dX11_count_10 (by rw [c_4_0]; decide) (by rw [c_4_0]; decide) (by rw [c_4_0]; decide) (by decide) ?_
      have h := h.1 c_4_0
      refine lv_aload_n hx hb dX11_count_68 rfl (lv_at hl 0 rfl) ?_
      refine gt (v := .ref (ad 6)) kfX11_27 0 hC hw rfl rfl dX11_count_69 ?_
      refine gt (v := .int (g_2 2 0 8)) kfX11_137 6 hC hw rfl rfl dX11_count_72 ?_
      exact rtIX (wf := (fun u : SG => (wT ad cI cC cZ cJ N u))) g_2 hC hr hlk hw rfl h (Nat.le_of_ble_eq_true rfl) (Nat.le_of_ble_eq_true rfl) dX11_count_75
    have h := h.2
    by_cases c_4_1 : x1 = (1 : Int32)
    · refine lv_tableIn (off := 66) (tgt := 76) hx hb dX11_count_10 (by rw [c_4_1]; decide) (by rw [c_4_1]; decide) (by rw [c_4_1]; decide) (by decide) ?_
      have h := h.1 c_4_1
      refine lv_aload_n hx hb dX11_count_76 rfl (lv_at hl 0 rfl) ?_
      refine gt (v := .ref (ad 6)) kfX11_27 0 hC hw rfl rfl dX11_count_77 ?_
      refine gt (v := .int (g_2 2 0 10)) kfX11_153 6 hC hw rfl rfl dX11_count_80 ?_
      exact rtIX (wf := (fun u : SG => (wT ad cI cC cZ cJ N u))) g_2 hC hr hlk hw rfl h (Nat.le_of_ble_eq_true rfl) (Nat.le_of_ble_eq_true rfl) dX11_count_83
    have h := h.2
    by_cases c_4_2 : x1 = (2 : Int32)
    · refine lv_tableIn (off := 74) (tgt := 84) hx hb dX11_count_10 (by rw [c_4_2]; decide) (by rw [c_4_2]; decide) (by rw [c_4_2]; decide) (by decide) ?_
      have h := h.1 c_4_2
      refine lv_aload_n hx hb dX11_count_84 rfl (lv_at hl 0 rfl) ?_
      refine gt (v := .ref (ad 6)) kfX11_27 0 hC hw rfl rfl dX11_count_85 ?_
      refine gt (v := .int (g_2 2 0 9)) kfX11_156 6 hC hw rfl rfl dX11_count_88 ?_
      exact rtIX (wf := (fun u : SG => (wT ad cI cC cZ cJ N u))) g_2 hC hr hlk hw rfl h (Nat.le_of_ble_eq_true rfl) (Nat.le_of_ble_eq_true rfl) dX11_count_91
    have h := h.2
    by_cases c_4_3 : x1 = (3 : Int32)
    · refine lv_tableIn (off := 82) (tgt := 92) hx hb dX11_count_10 (by rw [c_4_3]; decide) (by rw [c_4_3]; decide) (by rw [c_4_3]; decide) (by decide) ?_
      have h := h.1 c_4_3
      refine lv_aload_n hx hb dX11_count_92 rfl (lv_at hl 0 rfl) ?_
      refine gt (v := .ref (ad 13)) kfX11_60 0 hC hw rfl rfl dX11_count_93 ?_
      refine gt (v := .int (g_2 4 0 4)) kfX11_159 13 hC hw rfl rfl dX11_count_96 ?_
      exact rtIX (wf := (fun u : SG => (wT ad cI cC cZ cJ N u))) g_2 hC hr hlk hw rfl h (Nat.le_of_ble_eq_true rfl) (Nat.le_of_ble_eq_true rfl) dX11_count_99
    have h := h.2
    by_cases c_4_4 : x1 = (4 : Int32)
    · refine lv_tableIn (off := 90) (tgt := 100) hx hb dX11_count_10 (by rw [c_4_4]; decide) (by rw [c_4_4]; decide) (by rw [c_4_4]; decide) (by decide) ?_
      have h := h.1 c_4_4
      refine lv_aload_n hx hb dX11_count_100 rfl (lv_at hl 0 rfl) ?_
      refine gt (v := .ref (ad 13)) kfX11_60 0 hC hw rfl rfl dX11_count_101 ?_
      refine gt (v := .int (g_2 4 0 5)) kfX11_162 13 hC hw rfl rfl dX11_count_104 ?_
      exact rtIX (wf := (fun u : SG => (wT ad cI cC cZ cJ N u))) g_2 hC hr hlk hw rfl h (Nat.le_of_ble_eq_true rfl) (Nat.le_of_ble_eq_true rfl) dX11_count_107
    have h := h.2
    by_cases c_4_5 : x1 = (5 : Int32)
    · refine lv_tableIn (off := 98) (tgt := 108) hx hb dX11_count_10 (by rw [c_4_5]; decide) (by rw [c_4_5]; decide) (by rw [c_4_5]; decide) (by decide) ?_
      have h := h.1 c_4_5
      refine lv_aload_n hx hb dX11_count_108 rfl (lv_at hl 0 rfl) ?_
      refine gt (v := .ref (ad 1)) kfX11_10 0 hC hw rfl rfl dX11_count_109 ?_
      refine gt (v := .int (g_2 1 0 0)) kfX11_165 1 hC hw rfl rfl dX11_count_112 ?_
      exact rtIX (wf := (fun u : SG => (wT ad cI cC cZ cJ N u))) g_2 hC hr hlk hw rfl h (Nat.le_of_ble_eq_true rfl) (Nat.le_of_ble_eq_true rfl) dX11_count_115
    have h := h.2
    by_cases c_4_6 : x1 = (6 : Int32)
    · refine lv_tableIn (off := 106) (tgt := 116) hx hb dX11_count_10 (by rw [c_4_6]; decide) (by rw [c_4_6]; decide) (by rw [c_4_6]; decide) (by decide) ?_
      have h := h.1 c_4_6
      refine lv_aload_n hx hb dX11_count_116 rfl (lv_at hl 0 rfl) ?_
      refine gt (v := .ref (ad 8)) kfX11_36 0 hC hw rfl rfl dX11_count_117 ?_
      refine gt (v := .int (g_2 3 0 1)) kfX11_166 8 hC hw rfl rfl dX11_count_120 ?_
      exact rtIX (wf := (fun u : SG => (wT ad cI cC cZ cJ N u))) g_2 hC hr hlk hw rfl h (Nat.le_of_ble_eq_true rfl) (Nat.le_of_ble_eq_true rfl) dX11_count_123
    have h := h.2
    by_cases c_4_7 : x1 = (7 : Int32)
    · refine lv_tableIn (off := 114) (tgt := 124) hx hb dX11_count_10 (by rw [c_4_7]; decide) (by rw [c_4_7]; decide) (by rw [c_4_7]; decide) (by decide) ?_
      have h := h.1 c_4_7
      refine lv_aload_n hx hb dX11_count_124 rfl (lv_at hl 0 rfl) ?_
      refine gt (v := .ref (ad 16)) kfX11_47 0 hC hw rfl rfl dX11_count_125 ?_
      refine gt (v := .int (g_2 6 0 1)) kfX11_107 16 hC hw rfl rfl dX11_count_128 ?_
      exact rtIX (wf := (fun u : SG => (wT ad cI cC cZ cJ N u))) g_2 hC hr hlk hw rfl h (Nat.le_of_ble_eq_true rfl) (Nat.le_of_ble_eq_true rfl) dX11_count_131
    have h := h.2
    by_cases c_4_8 : x1 = (8 : Int32)
    · refine lv_tableIn (off := 122) (tgt := 132) hx hb dX11_count_10 (by rw [c_4_8]; decide) (by rw [c_4_8]; decide) (by rw [c_4_8]; decide) (by decide) ?_
      have h := h.1 c_4_8
      refine lv_aload_n hx hb dX11_count_132 rfl (lv_at hl 0 rfl) ?_
      refine gt (v := .ref (ad 14)) kfX11_43 0 hC hw rfl rfl dX11_count_133 ?_
      refine gt (v := .int (g_2 5 0 1)) kfX11_107 14 hC hw rfl rfl dX11_count_136 ?_
      exact rtIX (wf := (fun u : SG => (wT ad cI cC cZ cJ N u))) g_2 hC hr hlk hw rfl h (Nat.le_of_ble_eq_true rfl) (Nat.le_of_ble_eq_true rfl) dX11_count_139
    have h := h.2
    by_cases c_4_9 : x1 = (9 : Int32)
    · refine lv_tableIn (off := 130) (tgt := 140) hx hb dX11_count_10 (by rw [c_4_9]; decide) (by rw [c_4_9]; decide) (by rw [c_4_9]; decide) (by decide) ?_
      have h := h.1 c_4_9
      refine lv_aload_n hx hb dX11_count_140 rfl (lv_at hl 0 rfl) ?_
      refine gt (v := .ref (ad 13)) kfX11_60 0 hC hw rfl rfl dX11_count_141 ?_
      refine gt (v := .int (g_2 4 0 6)) kfX11_169 13 hC hw rfl rfl dX11_count_144 ?_
      exact rtIX (wf := (fun u : SG => (wT ad cI cC cZ cJ N u))) g_2 hC hr hlk hw rfl h (Nat.le_of_ble_eq_true rfl) (Nat.le_of_ble_eq_true rfl) dX11_count_147
    have h := h.2
    by_cases c_4_10 : x1 = (10 : Int32)
    · refine lv_tableIn (off := 138) (tgt := 148) hx hb dX11_count_10 (by rw [c_4_10]; decide) (by rw [c_4_10]; decide) (by rw [c_4_10]; decide) (by decide) ?_
      have h := h.1 c_4_10
      refine lv_aload_n hx hb dX11_count_148 rfl (lv_at hl 0 rfl) ?_
      refine gt (v := .ref (ad 13)) kfX11_60 0 hC hw rfl rfl dX11_count_149 ?_
      refine gt (v := .int (g_2 4 0 7)) kfX11_172 13 hC hw rfl rfl dX11_count_152 ?_
      exact rtIX (wf := (fun u : SG => (wT ad cI cC cZ cJ N u))) g_2 hC hr hlk hw rfl h (Nat.le_of_ble_eq_true rfl) (Nat.le_of_ble_eq_true rfl) dX11_count_155
    have h := h.2
    have nc_4_0 := lv_neT c_4_0 (a := 0) (by decide)
    have nc_4_1 := lv_neT c_4_1 (a := 1) (by decide)
    have nc_4_2 := lv_neT c_4_2 (a := 2) (by decide)
    have nc_4_3 := lv_neT c_4_3 (a := 3) (by decide)
    have nc_4_4 := lv_neT c_4_4 (a := 4) (by decide)
    have nc_4_5 := lv_neT c_4_5 (a := 5) (by decide)
    have nc_4_6 := lv_neT c_4_6 (a := 6) (by decide)
    have nc_4_7 := lv_neT c_4_7 (a := 7) (by decide)
    have nc_4_8 := lv_neT c_4_8 (a := 8) (by decide)
    have nc_4_9 := lv_neT c_4_9 (a := 9) (by decide)
    have nc_4_10 := lv_neT c_4_10 (a := 10) (by decide)
    refine lv_tableOut (tgt := 156) hx hb dX11_count_10 (by omega) (by decide) ?_
    have h := h c_4_0 c_4_1 c_4_2 c_4_3 c_4_4 c_4_5 c_4_6 c_4_7 c_4_8 c_4_9 c_4_10
    exact thX (wf := (fun u : SG => (wT ad cI cC cZ cJ N u))) g_2 kt_72_76 hlt hC hlk htab hw hE hE.2.2.2.2.2.2.2.2.1.2.2.2.2.2.2.2.2.2.2.2.1 (hE.2.2.2.2.2.2.2.2.1.2.2.2.2.2.1 (175, "no such count") (by decide)) hl.1 dX11_count_156 dX11_count_159 dX11_count_160 dX11_count_162 dX11_count_165 (Nat.le_of_ble_eq_true rfl) (Nat.le_of_ble_eq_true rfl) (Nat.le_of_ble_eq_true rfl) (Nat.le_of_ble_eq_true rfl) h
  · have h := h.2 c_3
    refine lv_iconst (v := (0 : Int32)) hx hb dX11_count_7 (by decide) ?_
    exact rtIX (wf := (fun u : SG => (wT ad cI cC cZ cJ N u))) g_2 hC hr hlk hw rfl h (Nat.le_of_ble_eq_true rfl) (Nat.le_of_ble_eq_true rfl) dX11_count_8
def V_X11_type (N : Nat) (px : String → SG → Prop) (n : Nat) (x1 : Int32) (G : SG) (post : Int32 → SG → Prop) : Prop := V_X11_isWornOut N  G (fun r_1 g_2 => ((r_1 = 0 → V_X6_isReadable x1 (fun r_4 => ((¬ r_4 = 0 → V_X6_read N n x1 g_2 (fun r_6 g_7 => ((¬ r_6 = (2 : Int32) → ((¬ r_6 = 0 → V_X7_run N n (g_7 3 0 2) g_7 (fun r_10 g_11 => V_X11_raise (fun E => px E g_11) r_10 (V_X9_word (1 : Int32) (g_11 1) (fun r_12 u_14 => ∀ g_13 : SG, g_13 = uo g_11 1 u_14 → V_X10_tag r_12 (fun r_15 => post r_15 g_13))))) ∧ (r_6 = 0 → post (0 : Int32) g_7))) ∧ (r_6 = (2 : Int32) → px "java/lang/IllegalArgumentException" g_7)))) ∧ (r_4 = 0 → px "java/lang/IllegalArgumentException" g_2)))) ∧ (¬ r_1 = 0 → post (0 : Int32) g_2)))
abbrev RM_X11_type : Room := { frames := 125, cells := 1, slots := 6, locals := 3169 }
set_option maxHeartbeats 4000000 in
set_option maxRecDepth 100000 in
theorem m_X11_type (l : Launch) (D : va_G) (cI cC cZ cJ : ClassId) (ad : Nat → Nat) (N : Nat) (px : String → SG → Prop) (ea : Nat → Nat → Nat) (n : Nat) (x1 : Int32) (G : SG) {post : Int32 → SG → Prop} (hlt : l.stackTraces = false) (h : V_X11_type N px n x1 G post) : MetIX ea l yX11_type cX11_type 3 .int RM_X11_type D (ty4 cI cC cZ cJ) (wT ad cI cC cZ cJ N G) [.ref (ad 0), .int x1] (fun u : SG => (wT ad cI cC cZ cJ N u)) post px := by
  refine mkIX (by decide) (Nat.le_of_ble_eq_true rfl) ?_
  intro p e s m args below meth c A ls hC hr hlk htab hw hE hl
  have hx := hC.1
  have hb := hC.2.1
  have hl : lv_has ls 3 [(0, .ref (ad 0)), (1, .int x1)] := hl
  unfold V_X11_type at h
  refine lv_aload_n hx hb dX11_type_0 rfl (lv_at hl 0 rfl) ?_
  refine cVIwe kmX11_64 hC hw hE (m_X11_isWornOut l D cI cC cZ cJ ad N ea  G h) rfl rfl ⟨by decide, by decide⟩ (recvW hw rfl 0 rfl) rfl hl.1 (Nat.le_of_ble_eq_true rfl) dX11_type_1 ⟨Nat.le_of_ble_eq_true rfl, Nat.le_of_ble_eq_true rfl⟩ rfl ?_
  intro r_1 g_2 H locs h hw
  refine lv_if_eq (tgt := 9) hx hb dX11_type_4 (by decide) (fun c_3 => ?_) (fun c_3 => ?_)
  · have h := h.1 c_3
    refine lv_iload_n hx hb dX11_type_9 rfl (lv_at hl 1 rfl) ?_
    refine cSI ksX11_68 hC (m_X6_isReadable l x1 h) rfl rfl ⟨by decide, by decide⟩ rfl hl.1 (Nat.le_of_ble_eq_true rfl) dX11_type_10 ⟨Nat.le_of_ble_eq_true rfl, Nat.le_of_ble_eq_true rfl⟩ rfl ?_
    intro r_4 h
    refine lv_if_ne (tgt := 26) hx hb dX11_type_13 (by decide) (fun c_5 => ?_) (fun c_5 => ?_)
    · have h := h.1 c_5
      refine lv_aload_n hx hb dX11_type_26 rfl (lv_at hl 0 rfl) ?_
      refine gt (v := .ref (ad 8)) kfX11_36 0 hC hw rfl rfl dX11_type_27 ?_
      refine lv_iload_n hx hb dX11_type_30 rfl (lv_at hl 1 rfl) ?_
      refine cVIwe kmX11_79 hC hw hE (m_X6_read l D cI cC cZ cJ ad N ea n x1 g_2 h) rfl rfl ⟨by decide, by decide⟩ (recvW hw rfl 8 rfl) rfl hl.1 (Nat.le_of_ble_eq_true rfl) dX11_type_31 ⟨Nat.le_of_ble_eq_true rfl, Nat.le_of_ble_eq_true rfl⟩ rfl ?_
      intro r_6 g_7 H locs h hw
      refine lv_istore_n (lv' := [(2, .int r_6), (0, .ref (ad 0)), (1, .int x1)]) hx hb dX11_type_34 rfl hl (by decide) rfl (fun ls hl => ?_)
      refine lv_iload_n hx hb dX11_type_35 rfl (lv_at hl 0 rfl) ?_
      refine lv_iconst (v := (2 : Int32)) hx hb dX11_type_36 (by decide) ?_
      refine lv_icmp_ne (tgt := 50) hx hb dX11_type_37 (by decide) (fun c_8 => ?_) (fun c_8 => ?_)
      · have h := h.1 c_8
        refine lv_iload_n hx hb dX11_type_50 rfl (lv_at hl 0 rfl) ?_
        refine lv_if_ne (tgt := 56) hx hb dX11_type_51 (by decide) (fun c_9 => ?_) (fun c_9 => ?_)
        · have h := h.1 c_9
          refine lv_aload_n hx hb dX11_type_56 rfl (lv_at hl 1 rfl) ?_
          refine gt (v := .ref (ad 13)) kfX11_60 0 hC hw rfl rfl dX11_type_57 ?_
          refine lv_aload_n hx hb dX11_type_60 rfl (lv_at hl 1 rfl) ?_
          refine gt (v := .ref (ad 8)) kfX11_36 0 hC hw rfl rfl dX11_type_61 ?_
          refine gt (v := .int (g_7 3 0 2)) kfX11_85 8 hC hw rfl rfl dX11_type_64 ?_
          refine cVIwe kmX11_89 hC hw hE (m_X7_run l D cI cC cZ cJ ad N ea n (g_7 3 0 2) g_7 h) rfl rfl ⟨by decide, by decide⟩ (recvW hw rfl 13 rfl) rfl hl.1 (Nat.le_of_ble_eq_true rfl) dX11_type_67 ⟨Nat.le_of_ble_eq_true rfl, Nat.le_of_ble_eq_true rfl⟩ rfl ?_
          intro r_10 g_11 H locs h hw
          refine cSX (wf := (fun u : SG => (wT ad cI cC cZ cJ N u))) g_11 ksX11_92 hC hlk htab hw hE (m_X11_raise l D cI cC cZ cJ (fun E => px E g_11) ea r_10 hlt h) rfl rfl ⟨by decide, by decide⟩ rfl hl.1 (Nat.le_of_ble_eq_true rfl) dX11_type_70 ⟨Nat.le_of_ble_eq_true rfl, Nat.le_of_ble_eq_true rfl⟩ rfl (fun _ h => h) ?_
          intro H locs h hw
          refine lv_aload_n hx hb dX11_type_73 rfl (lv_at hl 1 rfl) ?_
          refine gt (v := .ref (ad 1)) kfX11_10 0 hC hw rfl rfl dX11_type_74 ?_
          refine lv_iconst (v := (1 : Int32)) hx hb dX11_type_77 (by decide) ?_
          refine eI_wT_wSy_1 kmX11_95 hC hw (m_X9_word l D cI cC cZ cJ (fun j => ad (1 + j)) (1 : Int32) (g_11 1) h) rfl rfl ⟨by decide, by decide⟩ rfl hl.1 (Nat.le_of_ble_eq_true rfl) dX11_type_78 ⟨Nat.le_of_ble_eq_true rfl, Nat.le_of_ble_eq_true rfl⟩ rfl ?_
          intro r_12 u_14 g_13 H locs eg_13 h hw
          have h := h g_13 eg_13
          refine cSI ksX11_98 hC (m_X10_tag l r_12 h) rfl rfl ⟨by decide, by decide⟩ rfl hl.1 (Nat.le_of_ble_eq_true rfl) dX11_type_81 ⟨Nat.le_of_ble_eq_true rfl, Nat.le_of_ble_eq_true rfl⟩ rfl ?_
          intro r_15 h
          exact rtIX (wf := (fun u : SG => (wT ad cI cC cZ cJ N u))) g_13 hC hr hlk hw rfl h (Nat.le_of_ble_eq_true rfl) (Nat.le_of_ble_eq_true rfl) dX11_type_84
        · have h := h.2 c_9
          refine lv_iconst (v := (0 : Int32)) hx hb dX11_type_54 (by decide) ?_
          exact rtIX (wf := (fun u : SG => (wT ad cI cC cZ cJ N u))) g_7 hC hr hlk hw rfl h (Nat.le_of_ble_eq_true rfl) (Nat.le_of_ble_eq_true rfl) dX11_type_55
      · have h := h.2 c_8
        exact thX (wf := (fun u : SG => (wT ad cI cC cZ cJ N u))) g_7 kt_72_76 hlt hC hlk htab hw hE hE.2.2.2.2.2.2.2.2.1.2.2.2.2.2.2.2.2.2.2.2.1 (hE.2.2.2.2.2.2.2.2.1.2.2.2.2.2.1 (83, "this can't be read") (by decide)) hl.1 dX11_type_40 dX11_type_43 dX11_type_44 dX11_type_46 dX11_type_49 (Nat.le_of_ble_eq_true rfl) (Nat.le_of_ble_eq_true rfl) (Nat.le_of_ble_eq_true rfl) (Nat.le_of_ble_eq_true rfl) h
    · have h := h.2 c_5
      exact thX (wf := (fun u : SG => (wT ad cI cC cZ cJ N u))) g_2 kt_72_76 hlt hC hlk htab hw hE hE.2.2.2.2.2.2.2.2.1.2.2.2.2.2.2.2.2.2.2.2.1 (hE.2.2.2.2.2.2.2.2.1.2.2.2.2.2.1 (74, "no such character") (by decide)) hl.1 dX11_type_16 dX11_type_19 dX11_type_20 dX11_type_22 dX11_type_25 (Nat.le_of_ble_eq_true rfl) (Nat.le_of_ble_eq_true rfl) (Nat.le_of_ble_eq_true rfl) (Nat.le_of_ble_eq_true rfl) h
  · have h := h.2 c_3
    refine lv_iconst (v := (0 : Int32)) hx hb dX11_type_7 (by decide) ?_
    exact rtIX (wf := (fun u : SG => (wT ad cI cC cZ cJ N u))) g_2 hC hr hlk hw rfl h (Nat.le_of_ble_eq_true rfl) (Nat.le_of_ble_eq_true rfl) dX11_type_8
