def V_X12_pop (x1 : Int32) (g : St) (k : StL) (post : St → StL → Prop) : Prop := ∀ g_1 : St, g_1 = us g 12 ((g 0 12) - (1 : Int32)) → (vp_in (g_1 0 12) 1002 ∧ ((¬ (g_1 15 (g_1 0 12).toNatClampNeg) = (32 : Int32) → (vp_in (g_1 0 12) 1002 ∧ ∀ g_3 : St, g_3 = us g_1 13 (g_1 20 (g_1 0 12).toNatClampNeg) → ∀ g_4 : St, g_4 = us g_3 16 x1 → ∀ g_5 : St, g_5 = us g_4 17 (1 : Int32) → post g_5 k)) ∧ ((g_1 15 (g_1 0 12).toNatClampNeg) = (32 : Int32) → ∀ g_6 : St, g_6 = us g_1 20 ((g_1 0 20) - (1 : Int32)) → (vp_in (g_6 0 12) 1002 ∧ ∀ g_7 : St, g_7 = us g_6 13 (g_6 20 (g_6 0 12).toNatClampNeg) → ∀ g_8 : St, g_8 = us g_7 16 x1 → ∀ g_9 : St, g_9 = us g_8 17 (1 : Int32) → post g_9 k))))
abbrev RM_X12_pop : Room := { frames := 0, cells := 0, slots := 0, locals := 0 }
set_option maxHeartbeats 4000000 in
set_option maxRecDepth 100000 in
theorem m_X12_pop (l : Launch) (D : va_G) (cI cC cZ cJ : ClassId) (ad : Nat → Nat) (x1 : Int32) (g : St) (k : StL) {post : St → StL → Prop} (h : V_X12_pop x1 g k post) : MetV l yX12_pop cX12_pop 2 RM_X12_pop D (ty4 cI cC cZ cJ) (wM ad cI cC cZ cJ g k) [.ref (ad 0), .int x1] (fun u : St × StL => (wM ad cI cC cZ cJ u.1 u.2)) (fun u : St × StL => post u.1 u.2) := by
  refine mkV (by decide) (Nat.le_of_ble_eq_true rfl) ?_
  intro p e s m args below meth c A ls hC hr hlk hw hl
  have hx := hC.1
  have hb := hC.2.1
  have hl : lv_has ls 2 [(0, .ref (ad 0)), (1, .int x1)] := hl
  unfold V_X12_pop at h
  refine lv_aload_n hx hb dX12_pop_0 rfl (lv_at hl 0 rfl) ?_
  refine lv_dup hx hb dX12_pop_1 rfl ?_
  refine gt (v := .int (g 0 12)) kfX12_278 0 hC hw rfl rfl dX12_pop_2 ?_
  refine lv_iconst (v := (1 : Int32)) hx hb dX12_pop_5 (by decide) ?_
  refine lv_isub hx hb dX12_pop_6 ?_
  refine pwM_36 kpX12_278 hC hw dX12_pop_7 (fun H locs g_1 eg_1 hw => ?_)
  have h := h g_1 eg_1
  refine lv_aload_n hx hb dX12_pop_10 rfl (lv_at hl 0 rfl) ?_
  refine gt (v := .ref (ad 17)) kfX12_122 0 hC hw rfl rfl dX12_pop_11 ?_
  refine lv_aload_n hx hb dX12_pop_14 rfl (lv_at hl 0 rfl) ?_
  refine gt (v := .int (g_1 0 12)) kfX12_278 0 hC hw rfl rfl dX12_pop_15 ?_
  refine ldI 17 0 hC hw rfl rfl h.1 dX12_pop_18 ?_
  have h := h.2
  refine lv_bipush (v := (32 : Int32)) hx hb dX12_pop_19 (by decide) ?_
  refine lv_icmp_ne (tgt := 34) hx hb dX12_pop_21 (by decide) (fun c_2 => ?_) (fun c_2 => ?_)
  · have h := h.1 c_2
    refine lv_aload_n hx hb dX12_pop_34 rfl (lv_at hl 0 rfl) ?_
    refine lv_aload_n hx hb dX12_pop_35 rfl (lv_at hl 0 rfl) ?_
    refine gt (v := .ref (ad 22)) kfX12_137 0 hC hw rfl rfl dX12_pop_36 ?_
    refine lv_aload_n hx hb dX12_pop_39 rfl (lv_at hl 0 rfl) ?_
    refine gt (v := .int (g_1 0 12)) kfX12_278 0 hC hw rfl rfl dX12_pop_40 ?_
    refine ldI 22 0 hC hw rfl rfl h.1 dX12_pop_43 ?_
    have h := h.2
    refine pwM_37 kpX12_275 hC hw dX12_pop_44 (fun H locs g_3 eg_3 hw => ?_)
    have h := h g_3 eg_3
    refine lv_aload_n hx hb dX12_pop_47 rfl (lv_at hl 0 rfl) ?_
    refine lv_iload_n hx hb dX12_pop_48 rfl (lv_at hl 1 rfl) ?_
    refine pwM_40 kpX12_311 hC hw dX12_pop_49 (fun H locs g_4 eg_4 hw => ?_)
    have h := h g_4 eg_4
    refine lv_aload_n hx hb dX12_pop_52 rfl (lv_at hl 0 rfl) ?_
    refine lv_iconst (v := (1 : Int32)) hx hb dX12_pop_53 (by decide) ?_
    refine pwM_41 kpX12_314 (by decide) hC hw dX12_pop_54 (fun H locs g_5 eg_5 hw => ?_)
    have h := h g_5 eg_5
    exact rtV (wf := (fun u : St × StL => (wM ad cI cC cZ cJ u.1 u.2))) (g_5, k) hC hr hlk hw h dX12_pop_57
  · have h := h.2 c_2
    refine lv_aload_n hx hb dX12_pop_24 rfl (lv_at hl 0 rfl) ?_
    refine lv_dup hx hb dX12_pop_25 rfl ?_
    refine gt (v := .int (g_1 0 20)) kfX12_308 0 hC hw rfl rfl dX12_pop_26 ?_
    refine lv_iconst (v := (1 : Int32)) hx hb dX12_pop_29 (by decide) ?_
    refine lv_isub hx hb dX12_pop_30 ?_
    refine pwM_44 kpX12_308 hC hw dX12_pop_31 (fun H locs g_6 eg_6 hw => ?_)
    have h := h g_6 eg_6
    refine lv_aload_n hx hb dX12_pop_34 rfl (lv_at hl 0 rfl) ?_
    refine lv_aload_n hx hb dX12_pop_35 rfl (lv_at hl 0 rfl) ?_
    refine gt (v := .ref (ad 22)) kfX12_137 0 hC hw rfl rfl dX12_pop_36 ?_
    refine lv_aload_n hx hb dX12_pop_39 rfl (lv_at hl 0 rfl) ?_
    refine gt (v := .int (g_6 0 12)) kfX12_278 0 hC hw rfl rfl dX12_pop_40 ?_
    refine ldI 22 0 hC hw rfl rfl h.1 dX12_pop_43 ?_
    have h := h.2
    refine pwM_37 kpX12_275 hC hw dX12_pop_44 (fun H locs g_7 eg_7 hw => ?_)
    have h := h g_7 eg_7
    refine lv_aload_n hx hb dX12_pop_47 rfl (lv_at hl 0 rfl) ?_
    refine lv_iload_n hx hb dX12_pop_48 rfl (lv_at hl 1 rfl) ?_
    refine pwM_40 kpX12_311 hC hw dX12_pop_49 (fun H locs g_8 eg_8 hw => ?_)
    have h := h g_8 eg_8
    refine lv_aload_n hx hb dX12_pop_52 rfl (lv_at hl 0 rfl) ?_
    refine lv_iconst (v := (1 : Int32)) hx hb dX12_pop_53 (by decide) ?_
    refine pwM_41 kpX12_314 (by decide) hC hw dX12_pop_54 (fun H locs g_9 eg_9 hw => ?_)
    have h := h g_9 eg_9
    exact rtV (wf := (fun u : St × StL => (wM ad cI cC cZ cJ u.1 u.2))) (g_9, k) hC hr hlk hw h dX12_pop_57
def V_X12_choose_30 (post : St → StL → Prop) (y0 : Int32) (g : St) (k : StL) : Prop := (vp_in ((g 0 12) - (1 : Int32)) 1002 ∧ ∀ x_1 : Int32, x_1 = (g 19 ((g 0 12) - (1 : Int32)).toNatClampNeg) → V_X12_pop (1048576 : Int32) g k (fun g_2 k_3 => ((¬ y0 = (1048576 : Int32) → V_X12_car y0 g_2 k_3 (fun r_8 g_6 k_7 => ∀ g_9 : St, g_9 = us g_6 14 r_8 → ∀ g_10 : St, g_10 = us g_9 15 x_1 → ∀ g_11 : St, g_11 = us g_10 17 (0 : Int32) → post g_11 k_7)) ∧ (y0 = (1048576 : Int32) → post g_2 k_3))))
def V_X12_choose (g : St) (k : StL) (post : St → StL → Prop) : Prop := (vp_in ((g 0 12) - (1 : Int32)) 1002 ∧ ∀ x_12 : Int32, x_12 = (g 17 ((g 0 12) - (1 : Int32)).toNatClampNeg) → (((g 0 16) = (1048576 : Int32) → V_X12_cdr x_12 g k (fun r_16 g_14 k_15 => V_X12_choose_30 post r_16 g_14 k_15)) ∧ (¬ (g 0 16) = (1048576 : Int32) → V_X12_choose_30 post x_12 g k)))
abbrev RM_X12_choose : Room := { frames := 2, cells := 0, slots := 0, locals := 41 }
set_option maxHeartbeats 4000000 in
set_option maxRecDepth 100000 in
theorem m_X12_choose (l : Launch) (D : va_G) (cI cC cZ cJ : ClassId) (ad : Nat → Nat) (g : St) (k : StL) {post : St → StL → Prop} (h : V_X12_choose g k post) : MetV l yX12_choose cX12_choose 4 RM_X12_choose D (ty4 cI cC cZ cJ) (wM ad cI cC cZ cJ g k) [.ref (ad 0)] (fun u : St × StL => (wM ad cI cC cZ cJ u.1 u.2)) (fun u : St × StL => post u.1 u.2) := by
  refine mkV (by decide) (Nat.le_of_ble_eq_true rfl) ?_
  intro p e s m args below meth c A ls hC hr hlk hw hl
  have hx := hC.1
  have hb := hC.2.1
  have hl : lv_has ls 4 [(0, .ref (ad 0))] := hl
  have w_30 : ∀  (y0 : Int32) (g : St) (k : StL) (H : Heap) (locs : List Loc) (ls : Array Slot), V_X12_choose_30 post y0 g k → Wd D (ty4 cI cC cZ cJ) A s (wM ad cI cC cZ cJ g k) H locs → lv_has ls 4 [(0, .ref (ad 0))] → W p l e RM_X12_choose s m args below meth c H locs 0 0 (QV below D (ty4 cI cC cZ cJ) A args s (fun u : St × StL => (wM ad cI cC cZ cJ u.1 u.2)) (fun u : St × StL => post u.1 u.2)) (F0 m 30 ls [.int y0]) := by
    intro y0 g k H locs ls h hw hl
    unfold V_X12_choose_30 at h
    refine lv_istore_n (lv' := [(2, .int y0), (0, .ref (ad 0))]) hx hb dX12_choose_30 rfl hl (by decide) rfl (fun ls hl => ?_)
    refine lv_aload_n hx hb dX12_choose_31 rfl (lv_at hl 1 rfl) ?_
    refine gt (v := .ref (ad 21)) kfX12_134 0 hC hw rfl rfl dX12_choose_32 ?_
    refine lv_aload_n hx hb dX12_choose_35 rfl (lv_at hl 1 rfl) ?_
    refine gt (v := .int (g 0 12)) kfX12_278 0 hC hw rfl rfl dX12_choose_36 ?_
    refine lv_iconst (v := (1 : Int32)) hx hb dX12_choose_39 (by decide) ?_
    refine lv_isub hx hb dX12_choose_40 ?_
    refine ldI 21 0 hC hw rfl rfl h.1 dX12_choose_41 ?_
    have h := h.2
    refine lv_topi (fun x_1 ex_1 => ?_)
    have h := h x_1 ex_1
    refine lv_istore_n (lv' := [(3, .int x_1), (2, .int y0), (0, .ref (ad 0))]) hx hb dX12_choose_42 rfl hl (by decide) rfl (fun ls hl => ?_)
    refine lv_aload_n hx hb dX12_choose_43 rfl (lv_at hl 2 rfl) ?_
    refine lv_ldc (v := (1048576 : Int32)) hx hb hC.2.2.2.1 (hC.2.2.2.2 _ (List.mem_cons_of_mem _ kcX12_184)) dX12_choose_44 ?_
    refine cVVw (q0 := 0) kmX12_347 hC hw (m_X12_pop l D cI cC cZ cJ ad (1048576 : Int32) g k h) rfl rfl ⟨by decide, by decide⟩ rfl rfl rfl hl.1 (Nat.le_of_ble_eq_true rfl) dX12_choose_46 ⟨Nat.zero_le _, Nat.zero_le _⟩ rfl ?_
    intro u H locs h hw
    obtain ⟨g_2, k_3⟩ := u
    dsimp only at h hw
    refine lv_iload_n hx hb dX12_choose_49 rfl (lv_at hl 1 rfl) ?_
    refine lv_ldc (v := (1048576 : Int32)) hx hb hC.2.2.2.1 (hC.2.2.2.2 _ (List.mem_cons_of_mem _ kcX12_184)) dX12_choose_50 ?_
    refine lv_icmp_ne (tgt := 56) hx hb dX12_choose_52 (by decide) (fun c_5 => ?_) (fun c_5 => ?_)
    · have h := h.1 c_5
      refine lv_aload_n hx hb dX12_choose_56 rfl (lv_at hl 2 rfl) ?_
      refine lv_aload_n hx hb dX12_choose_57 rfl (lv_at hl 2 rfl) ?_
      refine lv_iload_n hx hb dX12_choose_58 rfl (lv_at hl 1 rfl) ?_
      refine cVIw (q0 := 0) kmX12_260 hC hw (m_X12_car l D cI cC cZ cJ ad y0 g_2 k_3 h) rfl rfl ⟨by decide, by decide⟩ rfl rfl rfl hl.1 (Nat.le_of_ble_eq_true rfl) dX12_choose_59 ⟨Nat.zero_le _, Nat.zero_le _⟩ rfl ?_
      intro r_8 u H locs h hw
      obtain ⟨g_6, k_7⟩ := u
      dsimp only at h hw
      refine pwM_38 kpX12_302 hC hw dX12_choose_62 (fun H locs g_9 eg_9 hw => ?_)
      have h := h g_9 eg_9
      refine lv_aload_n hx hb dX12_choose_65 rfl (lv_at hl 2 rfl) ?_
      refine lv_iload_n hx hb dX12_choose_66 rfl (lv_at hl 0 rfl) ?_
      refine pwM_39 kpX12_305 hC hw dX12_choose_67 (fun H locs g_10 eg_10 hw => ?_)
      have h := h g_10 eg_10
      refine lv_aload_n hx hb dX12_choose_70 rfl (lv_at hl 2 rfl) ?_
      refine lv_iconst (v := (0 : Int32)) hx hb dX12_choose_71 (by decide) ?_
      refine pwM_41 kpX12_314 (by decide) hC hw dX12_choose_72 (fun H locs g_11 eg_11 hw => ?_)
      have h := h g_11 eg_11
      exact rtV (wf := (fun u : St × StL => (wM ad cI cC cZ cJ u.1 u.2))) (g_11, k_7) hC hr hlk hw h dX12_choose_75
    · have h := h.2 c_5
      exact rtV (wf := (fun u : St × StL => (wM ad cI cC cZ cJ u.1 u.2))) (g_2, k_3) hC hr hlk hw h dX12_choose_55
  unfold V_X12_choose at h
  refine lv_aload_n hx hb dX12_choose_0 rfl (lv_at hl 0 rfl) ?_
  refine gt (v := .ref (ad 19)) kfX12_128 0 hC hw rfl rfl dX12_choose_1 ?_
  refine lv_aload_n hx hb dX12_choose_4 rfl (lv_at hl 0 rfl) ?_
  refine gt (v := .int (g 0 12)) kfX12_278 0 hC hw rfl rfl dX12_choose_5 ?_
  refine lv_iconst (v := (1 : Int32)) hx hb dX12_choose_8 (by decide) ?_
  refine lv_isub hx hb dX12_choose_9 ?_
  refine ldI 19 0 hC hw rfl rfl h.1 dX12_choose_10 ?_
  have h := h.2
  refine lv_topi (fun x_12 ex_12 => ?_)
  have h := h x_12 ex_12
  refine lv_istore_n (lv' := [(1, .int x_12), (0, .ref (ad 0))]) hx hb dX12_choose_11 rfl hl (by decide) rfl (fun ls hl => ?_)
  refine lv_aload_n hx hb dX12_choose_12 rfl (lv_at hl 1 rfl) ?_
  refine gt (v := .int (g 0 16)) kfX12_311 0 hC hw rfl rfl dX12_choose_13 ?_
  refine lv_ldc (v := (1048576 : Int32)) hx hb hC.2.2.2.1 (hC.2.2.2.2 _ (List.mem_cons_of_mem _ kcX12_184)) dX12_choose_16 ?_
  refine lv_icmp_eq (tgt := 25) hx hb dX12_choose_18 (by decide) (fun c_13 => ?_) (fun c_13 => ?_)
  · have h := h.1 c_13
    refine lv_aload_n hx hb dX12_choose_25 rfl (lv_at hl 1 rfl) ?_
    refine lv_iload_n hx hb dX12_choose_26 rfl (lv_at hl 0 rfl) ?_
    refine cVIw (q0 := 0) kmX12_251 hC hw (m_X12_cdr l D cI cC cZ cJ ad x_12 g k h) rfl rfl ⟨by decide, by decide⟩ rfl rfl rfl hl.1 (Nat.le_of_ble_eq_true rfl) dX12_choose_27 ⟨Nat.zero_le _, Nat.zero_le _⟩ rfl ?_
    intro r_16 u H locs h hw
    obtain ⟨g_14, k_15⟩ := u
    dsimp only at h hw
    exact w_30 r_16 g_14 k_15 _ _ _ h hw (lv_sub hl [1] rfl)
  · have h := h.2 c_13
    refine lv_iload_n hx hb dX12_choose_21 rfl (lv_at hl 0 rfl) ?_
    refine lv_goto (tgt := 30) hx hb dX12_choose_22 (by decide) ?_
    exact w_30 x_12 g k _ _ _ h hw (lv_sub hl [1] rfl)
def V_X12_ask (x1 : Int32) (g : St) (k : StL) (post : St → StL → Prop) : Prop := ∀ g_1 : St, g_1 = us g 14 x1 → (vp_in ((g_1 0 12) - (1 : Int32)) 1002 ∧ ∀ g_2 : St, g_2 = us g_1 15 (g_1 19 ((g_1 0 12) - (1 : Int32)).toNatClampNeg) → ∀ g_3 : St, g_3 = us g_2 17 (0 : Int32) → post g_3 k)
abbrev RM_X12_ask : Room := { frames := 0, cells := 0, slots := 0, locals := 0 }
set_option maxHeartbeats 4000000 in
set_option maxRecDepth 100000 in
theorem m_X12_ask (l : Launch) (D : va_G) (cI cC cZ cJ : ClassId) (ad : Nat → Nat) (x1 : Int32) (g : St) (k : StL) {post : St → StL → Prop} (h : V_X12_ask x1 g k post) : MetV l yX12_ask cX12_ask 2 RM_X12_ask D (ty4 cI cC cZ cJ) (wM ad cI cC cZ cJ g k) [.ref (ad 0), .int x1] (fun u : St × StL => (wM ad cI cC cZ cJ u.1 u.2)) (fun u : St × StL => post u.1 u.2) := by
  refine mkV (by decide) (Nat.le_of_ble_eq_true rfl) ?_
  intro p e s m args below meth c A ls hC hr hlk hw hl
  have hx := hC.1
  have hb := hC.2.1
  have hl : lv_has ls 2 [(0, .ref (ad 0)), (1, .int x1)] := hl
  unfold V_X12_ask at h
  refine lv_aload_n hx hb dX12_ask_0 rfl (lv_at hl 0 rfl) ?_
  refine lv_iload_n hx hb dX12_ask_1 rfl (lv_at hl 1 rfl) ?_
  refine pwM_38 kpX12_302 hC hw dX12_ask_2 (fun H locs g_1 eg_1 hw => ?_)
  have h := h g_1 eg_1
  refine lv_aload_n hx hb dX12_ask_5 rfl (lv_at hl 0 rfl) ?_
  refine lv_aload_n hx hb dX12_ask_6 rfl (lv_at hl 0 rfl) ?_
  refine gt (v := .ref (ad 21)) kfX12_134 0 hC hw rfl rfl dX12_ask_7 ?_
  refine lv_aload_n hx hb dX12_ask_10 rfl (lv_at hl 0 rfl) ?_
  refine gt (v := .int (g_1 0 12)) kfX12_278 0 hC hw rfl rfl dX12_ask_11 ?_
  refine lv_iconst (v := (1 : Int32)) hx hb dX12_ask_14 (by decide) ?_
  refine lv_isub hx hb dX12_ask_15 ?_
  refine ldI 21 0 hC hw rfl rfl h.1 dX12_ask_16 ?_
  have h := h.2
  refine pwM_39 kpX12_305 hC hw dX12_ask_17 (fun H locs g_2 eg_2 hw => ?_)
  have h := h g_2 eg_2
  refine lv_aload_n hx hb dX12_ask_20 rfl (lv_at hl 0 rfl) ?_
  refine lv_iconst (v := (0 : Int32)) hx hb dX12_ask_21 (by decide) ?_
  refine pwM_41 kpX12_314 (by decide) hC hw dX12_ask_22 (fun H locs g_3 eg_3 hw => ?_)
  have h := h g_3 eg_3
  exact rtV (wf := (fun u : St × StL => (wM ad cI cC cZ cJ u.1 u.2))) (g_3, k) hC hr hlk hw h dX12_ask_25
def V_X12_next (g : St) (k : StL) (post : St → StL → Prop) : Prop := (vp_in ((g 0 12) - (1 : Int32)) 1002 ∧ V_X12_car (g 17 ((g 0 12) - (1 : Int32)).toNatClampNeg) g k (fun r_3 g_1 k_2 => (vp_in ((g_1 0 12) - (1 : Int32)) 1002 ∧ V_X12_cdr (g_1 17 ((g_1 0 12) - (1 : Int32)).toNatClampNeg) g_1 k_2 (fun r_6 g_4 k_5 => (vp_in ((g_1 0 12) - (1 : Int32)) 1002 ∧ ∀ g_7 : St, g_7 = up g_4 17 ((g_1 0 12) - (1 : Int32)).toNatClampNeg r_6 → V_X12_ask r_3 g_7 k_5 (fun g_8 k_9 => post g_8 k_9))))))
abbrev RM_X12_next : Room := { frames := 2, cells := 0, slots := 0, locals := 41 }
set_option maxHeartbeats 4000000 in
set_option maxRecDepth 100000 in
theorem m_X12_next (l : Launch) (D : va_G) (cI cC cZ cJ : ClassId) (ad : Nat → Nat) (g : St) (k : StL) {post : St → StL → Prop} (h : V_X12_next g k post) : MetV l yX12_next cX12_next 2 RM_X12_next D (ty4 cI cC cZ cJ) (wM ad cI cC cZ cJ g k) [.ref (ad 0)] (fun u : St × StL => (wM ad cI cC cZ cJ u.1 u.2)) (fun u : St × StL => post u.1 u.2) := by
  refine mkV (by decide) (Nat.le_of_ble_eq_true rfl) ?_
  intro p e s m args below meth c A ls hC hr hlk hw hl
  have hx := hC.1
  have hb := hC.2.1
  have hl : lv_has ls 2 [(0, .ref (ad 0))] := hl
  unfold V_X12_next at h
  refine lv_aload_n hx hb dX12_next_0 rfl (lv_at hl 0 rfl) ?_
  refine lv_aload_n hx hb dX12_next_1 rfl (lv_at hl 0 rfl) ?_
  refine gt (v := .ref (ad 19)) kfX12_128 0 hC hw rfl rfl dX12_next_2 ?_
  refine lv_aload_n hx hb dX12_next_5 rfl (lv_at hl 0 rfl) ?_
  refine gt (v := .int (g 0 12)) kfX12_278 0 hC hw rfl rfl dX12_next_6 ?_
  refine lv_iconst (v := (1 : Int32)) hx hb dX12_next_9 (by decide) ?_
  refine lv_isub hx hb dX12_next_10 ?_
  refine ldI 19 0 hC hw rfl rfl h.1 dX12_next_11 ?_
  have h := h.2
  refine cVIw (q0 := 0) kmX12_260 hC hw (m_X12_car l D cI cC cZ cJ ad (g 17 ((g 0 12) - (1 : Int32)).toNatClampNeg) g k h) rfl rfl ⟨by decide, by decide⟩ rfl rfl rfl hl.1 (Nat.le_of_ble_eq_true rfl) dX12_next_12 ⟨Nat.zero_le _, Nat.zero_le _⟩ rfl ?_
  intro r_3 u H locs h hw
  obtain ⟨g_1, k_2⟩ := u
  dsimp only at h hw
  refine lv_istore_n (lv' := [(1, .int r_3), (0, .ref (ad 0))]) hx hb dX12_next_15 rfl hl (by decide) rfl (fun ls hl => ?_)
  refine lv_aload_n hx hb dX12_next_16 rfl (lv_at hl 1 rfl) ?_
  refine gt (v := .ref (ad 19)) kfX12_128 0 hC hw rfl rfl dX12_next_17 ?_
  refine lv_aload_n hx hb dX12_next_20 rfl (lv_at hl 1 rfl) ?_
  refine gt (v := .int (g_1 0 12)) kfX12_278 0 hC hw rfl rfl dX12_next_21 ?_
  refine lv_iconst (v := (1 : Int32)) hx hb dX12_next_24 (by decide) ?_
  refine lv_isub hx hb dX12_next_25 ?_
  refine lv_aload_n hx hb dX12_next_26 rfl (lv_at hl 1 rfl) ?_
  refine lv_aload_n hx hb dX12_next_27 rfl (lv_at hl 1 rfl) ?_
  refine gt (v := .ref (ad 19)) kfX12_128 0 hC hw rfl rfl dX12_next_28 ?_
  refine lv_aload_n hx hb dX12_next_31 rfl (lv_at hl 1 rfl) ?_
  refine gt (v := .int (g_1 0 12)) kfX12_278 0 hC hw rfl rfl dX12_next_32 ?_
  refine lv_iconst (v := (1 : Int32)) hx hb dX12_next_35 (by decide) ?_
  refine lv_isub hx hb dX12_next_36 ?_
  refine ldI 19 0 hC hw rfl rfl h.1 dX12_next_37 ?_
  have h := h.2
  refine cVIw (q0 := 0) kmX12_251 hC hw (m_X12_cdr l D cI cC cZ cJ ad (g_1 17 ((g_1 0 12) - (1 : Int32)).toNatClampNeg) g_1 k_2 h) rfl rfl ⟨by decide, by decide⟩ rfl rfl rfl hl.1 (Nat.le_of_ble_eq_true rfl) dX12_next_38 ⟨Nat.zero_le _, Nat.zero_le _⟩ rfl ?_
  intro r_6 u H locs h hw
  obtain ⟨g_4, k_5⟩ := u
  dsimp only at h hw
  refine swM_19 h.1 hC hw dX12_next_41 (fun H locs g_7 eg_7 hw => ?_)
  have h := h.2 g_7 eg_7
  refine lv_aload_n hx hb dX12_next_42 rfl (lv_at hl 1 rfl) ?_
  refine lv_iload_n hx hb dX12_next_43 rfl (lv_at hl 0 rfl) ?_
  refine cVVw (q0 := 0) kmX12_317 hC hw (m_X12_ask l D cI cC cZ cJ ad r_3 g_7 k_5 h) rfl rfl ⟨by decide, by decide⟩ rfl rfl rfl hl.1 (Nat.le_of_ble_eq_true rfl) dX12_next_44 ⟨Nat.zero_le _, Nat.zero_le _⟩ rfl ?_
  intro u H locs h hw
  obtain ⟨g_8, k_9⟩ := u
  dsimp only at h hw
  exact rtV (wf := (fun u : St × StL => (wM ad cI cC cZ cJ u.1 u.2))) (g_8, k_9) hC hr hlk hw h dX12_next_47
def V_X12_place_31 (K2 : Int32 → Int32 → St → StL → Prop) (post : Int32 → St → StL → Prop) : Nat → Int32 → Int32 → Int32 → Int32 → St → StL → Prop
  | 0, _, _, _, _, _, _ => False
  | n + 1, x1, x3, x4, x5, g, k => ((x5 = (1048576 : Int32) → (vp_in ((8 : Int32) * (x3 - (1 : Int32))) 1344 ∧ ∀ x_2 : Int32, x_2 = (g 10 ((8 : Int32) * (x3 - (1 : Int32))).toNatClampNeg) → K2 x1 x_2 g k)) ∧ (¬ x5 = (1048576 : Int32) → V_X12_car x5 g k (fun r_5 g_3 k_4 => ((¬ r_5 = x1 → ∀ x_7 : Int32, x_7 = x4 + (1 : Int32) → V_X12_cdr x5 g_3 k_4 (fun r_10 g_8 k_9 => V_X12_place_31 K2 post n x1 x3 x_7 r_10 g_8 k_9)) ∧ (r_5 = x1 → post x4 g_3 k_4)))))
def V_X12_place_2 (post : Int32 → St → StL → Prop) : Nat → Int32 → Int32 → St → StL → Prop
  | 0, _, _, _, _ => False
  | n + 1, x1, x3, g, k => ((x3 ≤ 0 → post (-1 : Int32) g k) ∧ (¬ x3 ≤ 0 → ∀ x_12 : Int32, x_12 = (((8 : Int32) * (x3 - (1 : Int32))) + (2 : Int32)) → (vp_in (((8 : Int32) * (x3 - (1 : Int32))) + (1 : Int32)) 1344 ∧ ∀ x_13 : Int32, x_13 = (g 10 (((8 : Int32) * (x3 - (1 : Int32))) + (1 : Int32)).toNatClampNeg) → V_X12_place_31 (fun x1 x3 g k => V_X12_place_2 post n x1 x3 g k) post n x1 x3 x_12 x_13 g k)))
def V_X12_place (n : Nat) (x1 : Int32) (x2 : Int32) (g : St) (k : StL) (post : Int32 → St → StL → Prop) : Prop := V_X12_place_2 post n x1 x2 g k
abbrev RM_X12_place : Room := { frames := 2, cells := 0, slots := 0, locals := 41 }
set_option maxHeartbeats 4000000 in
set_option maxRecDepth 100000 in
theorem m_X12_place (l : Launch) (D : va_G) (cI cC cZ cJ : ClassId) (ad : Nat → Nat) (n : Nat) (x1 : Int32) (x2 : Int32) (g : St) (k : StL) {post : Int32 → St → StL → Prop} (h : V_X12_place n x1 x2 g k post) : MetI l yX12_place cX12_place 6 .int RM_X12_place D (ty4 cI cC cZ cJ) (wM ad cI cC cZ cJ g k) [.ref (ad 0), .int x1, .int x2] (fun u : St × StL => (wM ad cI cC cZ cJ u.1 u.2)) (fun (r : Int32) (u : St × StL) => post r u.1 u.2) := by
  refine mkI (by decide) (Nat.le_of_ble_eq_true rfl) ?_
  intro p e s m args below meth c A ls hC hr hlk hw hl
  have hx := hC.1
  have hb := hC.2.1
  have hl : lv_has ls 6 [(0, .ref (ad 0)), (1, .int x1), (2, .int x2)] := hl
  have w_31 : ∀ (K2 : Int32 → Int32 → St → StL → Prop) (hK2 : ∀ (x1 : Int32) (x3 : Int32) (g : St) (k : StL) (H : Heap) (locs : List Loc) (ls : Array Slot), K2 x1 x3 g k → Wd D (ty4 cI cC cZ cJ) A s (wM ad cI cC cZ cJ g k) H locs → lv_has ls 6 [(0, .ref (ad 0)), (1, .int x1), (3, .int x3)] → W p l e RM_X12_place s m args below meth c H locs 0 0 (QI below D (ty4 cI cC cZ cJ) A args s (fun u : St × StL => (wM ad cI cC cZ cJ u.1 u.2)) (fun (r : Int32) (u : St × StL) => post r u.1 u.2)) (F0 m 2 ls [])) (n : Nat) (x1 : Int32) (x3 : Int32) (x4 : Int32) (x5 : Int32) (g : St) (k : StL) (H : Heap) (locs : List Loc) (ls : Array Slot), V_X12_place_31 K2 post n x1 x3 x4 x5 g k → Wd D (ty4 cI cC cZ cJ) A s (wM ad cI cC cZ cJ g k) H locs → lv_has ls 6 [(0, .ref (ad 0)), (1, .int x1), (3, .int x3), (4, .int x4), (5, .int x5)] → W p l e RM_X12_place s m args below meth c H locs 0 0 (QI below D (ty4 cI cC cZ cJ) A args s (fun u : St × StL => (wM ad cI cC cZ cJ u.1 u.2)) (fun (r : Int32) (u : St × StL) => post r u.1 u.2)) (F0 m 31 ls []) := by
    intro K2 hK2 n
    induction n with
    | zero =>
      intro x1 x3 x4 x5 g k H locs ls h
      exact False.elim h
    | succ n ih =>
      intro x1 x3 x4 x5 g k H locs ls h hw hl
      rw [V_X12_place_31] at h
      refine lv_iload hx hb dX12_place_31 (lv_at hl 4 rfl) ?_
      refine lv_ldc (v := (1048576 : Int32)) hx hb hC.2.2.2.1 (hC.2.2.2.2 _ (List.mem_cons_of_mem _ kcX12_184)) dX12_place_33 ?_
      refine lv_icmp_eq (tgt := 65) hx hb dX12_place_35 (by decide) (fun c_1 => ?_) (fun c_1 => ?_)
      · have h := h.1 c_1
        refine lv_aload_n hx hb dX12_place_65 rfl (lv_at hl 0 rfl) ?_
        refine gt (v := .ref (ad 12)) kfX12_107 0 hC hw rfl rfl dX12_place_66 ?_
        refine lv_bipush (v := (8 : Int32)) hx hb dX12_place_69 (by decide) ?_
        refine lv_iload_n hx hb dX12_place_71 rfl (lv_at hl 2 rfl) ?_
        refine lv_iconst (v := (1 : Int32)) hx hb dX12_place_72 (by decide) ?_
        refine lv_isub hx hb dX12_place_73 ?_
        refine lv_imul hx hb dX12_place_74 ?_
        refine ldI 12 0 hC hw rfl rfl h.1 dX12_place_75 ?_
        have h := h.2
        refine lv_topi (fun x_2 ex_2 => ?_)
        have h := h x_2 ex_2
        refine lv_istore_n (lv' := [(3, .int x_2), (0, .ref (ad 0)), (1, .int x1), (4, .int x4), (5, .int x5)]) hx hb dX12_place_76 rfl hl (by decide) rfl (fun ls hl => ?_)
        refine lv_goto (tgt := 2) hx hb dX12_place_77 (by decide) ?_
        exact hK2 x1 x_2 g k _ _ _ h hw (lv_sub hl [1, 2, 0] rfl)
      · have h := h.2 c_1
        refine lv_aload_n hx hb dX12_place_38 rfl (lv_at hl 0 rfl) ?_
        refine lv_iload hx hb dX12_place_39 (lv_at hl 4 rfl) ?_
        refine cVIw (q0 := 0) kmX12_260 hC hw (m_X12_car l D cI cC cZ cJ ad x5 g k h) rfl rfl ⟨by decide, by decide⟩ rfl rfl rfl hl.1 (Nat.le_of_ble_eq_true rfl) dX12_place_41 ⟨Nat.zero_le _, Nat.zero_le _⟩ rfl ?_
        intro r_5 u H locs h hw
        obtain ⟨g_3, k_4⟩ := u
        dsimp only at h hw
        refine lv_iload_n hx hb dX12_place_44 rfl (lv_at hl 1 rfl) ?_
        refine lv_icmp_ne (tgt := 51) hx hb dX12_place_45 (by decide) (fun c_6 => ?_) (fun c_6 => ?_)
        · have h := h.1 c_6
          obtain ⟨x_7, ex_7⟩ : ∃ y : Int32, y = x4 + (1 : Int32) := ⟨_, rfl⟩
          have h := h x_7 ex_7
          refine lv_iinc (v := x_7) (lv' := [(4, .int x_7), (0, .ref (ad 0)), (1, .int x1), (3, .int x3), (5, .int x5)]) hx hb dX12_place_51 hl (k := 3) rfl (by rw [ex_7]; rfl) (by decide) rfl (fun ls hl => ?_)
          refine lv_aload_n hx hb dX12_place_54 rfl (lv_at hl 1 rfl) ?_
          refine lv_iload hx hb dX12_place_55 (lv_at hl 4 rfl) ?_
          refine cVIw (q0 := 0) kmX12_251 hC hw (m_X12_cdr l D cI cC cZ cJ ad x5 g_3 k_4 h) rfl rfl ⟨by decide, by decide⟩ rfl rfl rfl hl.1 (Nat.le_of_ble_eq_true rfl) dX12_place_57 ⟨Nat.zero_le _, Nat.zero_le _⟩ rfl ?_
          intro r_10 u H locs h hw
          obtain ⟨g_8, k_9⟩ := u
          dsimp only at h hw
          refine lv_istore (lv' := [(5, .int r_10), (4, .int x_7), (0, .ref (ad 0)), (1, .int x1), (3, .int x3)]) hx hb dX12_place_60 hl (by decide) rfl (fun ls hl => ?_)
          refine lv_goto (tgt := 31) hx hb dX12_place_62 (by decide) ?_
          exact ih x1 x3 x_7 r_10 g_8 k_9 _ _ _ h hw (lv_sub hl [2, 3, 4, 1, 0] rfl)
        · have h := h.2 c_6
          refine lv_iload hx hb dX12_place_48 (lv_at hl 3 rfl) ?_
          exact rtI (wf := (fun u : St × StL => (wM ad cI cC cZ cJ u.1 u.2))) (g_3, k_4) hC hr hlk hw rfl h dX12_place_50
  have w_2 : ∀ (n : Nat) (x1 : Int32) (x3 : Int32) (g : St) (k : StL) (H : Heap) (locs : List Loc) (ls : Array Slot), V_X12_place_2 post n x1 x3 g k → Wd D (ty4 cI cC cZ cJ) A s (wM ad cI cC cZ cJ g k) H locs → lv_has ls 6 [(0, .ref (ad 0)), (1, .int x1), (3, .int x3)] → W p l e RM_X12_place s m args below meth c H locs 0 0 (QI below D (ty4 cI cC cZ cJ) A args s (fun u : St × StL => (wM ad cI cC cZ cJ u.1 u.2)) (fun (r : Int32) (u : St × StL) => post r u.1 u.2)) (F0 m 2 ls []) := by
    intro n
    induction n with
    | zero =>
      intro x1 x3 g k H locs ls h
      exact False.elim h
    | succ n ih =>
      intro x1 x3 g k H locs ls h hw hl
      rw [V_X12_place_2] at h
      refine lv_iload_n hx hb dX12_place_2 rfl (lv_at hl 2 rfl) ?_
      refine lv_if_le (tgt := 80) hx hb dX12_place_3 (by decide) (fun c_11 => ?_) (fun c_11 => ?_)
      · have h := h.1 c_11
        refine lv_iconst (v := (-1 : Int32)) hx hb dX12_place_80 (by decide) ?_
        exact rtI (wf := (fun u : St × StL => (wM ad cI cC cZ cJ u.1 u.2))) (g, k) hC hr hlk hw rfl h dX12_place_81
      · have h := h.2 c_11
        refine lv_bipush (v := (8 : Int32)) hx hb dX12_place_6 (by decide) ?_
        refine lv_iload_n hx hb dX12_place_8 rfl (lv_at hl 2 rfl) ?_
        refine lv_iconst (v := (1 : Int32)) hx hb dX12_place_9 (by decide) ?_
        refine lv_isub hx hb dX12_place_10 ?_
        refine lv_imul hx hb dX12_place_11 ?_
        refine lv_iconst (v := (2 : Int32)) hx hb dX12_place_12 (by decide) ?_
        refine lv_iadd hx hb dX12_place_13 ?_
        refine lv_topi (fun x_12 ex_12 => ?_)
        have h := h x_12 ex_12
        refine lv_istore (lv' := [(4, .int x_12), (0, .ref (ad 0)), (1, .int x1), (3, .int x3)]) hx hb dX12_place_14 hl (by decide) rfl (fun ls hl => ?_)
        refine lv_aload_n hx hb dX12_place_16 rfl (lv_at hl 1 rfl) ?_
        refine gt (v := .ref (ad 12)) kfX12_107 0 hC hw rfl rfl dX12_place_17 ?_
        refine lv_bipush (v := (8 : Int32)) hx hb dX12_place_20 (by decide) ?_
        refine lv_iload_n hx hb dX12_place_22 rfl (lv_at hl 3 rfl) ?_
        refine lv_iconst (v := (1 : Int32)) hx hb dX12_place_23 (by decide) ?_
        refine lv_isub hx hb dX12_place_24 ?_
        refine lv_imul hx hb dX12_place_25 ?_
        refine lv_iconst (v := (1 : Int32)) hx hb dX12_place_26 (by decide) ?_
        refine lv_iadd hx hb dX12_place_27 ?_
        refine ldI 12 0 hC hw rfl rfl h.1 dX12_place_28 ?_
        have h := h.2
        refine lv_topi (fun x_13 ex_13 => ?_)
        have h := h x_13 ex_13
        refine lv_istore (lv' := [(5, .int x_13), (4, .int x_12), (0, .ref (ad 0)), (1, .int x1), (3, .int x3)]) hx hb dX12_place_29 hl (by decide) rfl (fun ls hl => ?_)
        exact w_31 _ ih n x1 x3 x_12 x_13 g k _ _ _ h hw (lv_sub hl [2, 3, 4, 1, 0] rfl)
  unfold V_X12_place at h
  refine lv_iload_n hx hb dX12_place_0 rfl (lv_at hl 2 rfl) ?_
  refine lv_istore_n (lv' := [(3, .int x2), (0, .ref (ad 0)), (1, .int x1), (2, .int x2)]) hx hb dX12_place_1 rfl hl (by decide) rfl (fun ls hl => ?_)
  exact w_2 n x1 x2 g k _ _ _ h hw (lv_sub hl [1, 2, 0] rfl)
def V_X12_assign (n : Nat) (g : St) (k : StL) (post : St → StL → Prop) : Prop := (vp_in ((g 0 12) - (1 : Int32)) 1002 ∧ V_X12_cdr (g 16 ((g 0 12) - (1 : Int32)).toNatClampNeg) g k (fun r_3 g_1 k_2 => V_X12_car r_3 g_1 k_2 (fun r_6 g_4 k_5 => (vp_in ((g_4 0 12) - (1 : Int32)) 1002 ∧ V_X12_place n r_6 (g_4 19 ((g_4 0 12) - (1 : Int32)).toNatClampNeg) g_4 k_5 (fun r_9 g_7 k_8 => ((r_9 < 0 → V_X12_load r_6 (fun r_11 => (vp_in r_11 40 ∧ ∀ g_12 : St, g_12 = up g_7 3 r_11.toNatClampNeg (g_7 0 16) → V_X12_load r_6 (fun r_13 => (vp_in r_13 40 ∧ ∀ g_14 : St, g_14 = up g_12 2 r_13.toNatClampNeg (vp_nar .boolean (1 : Int32)) → V_X12_pop (g_14 0 16) g_14 k_8 (fun g_15 k_16 => post g_15 k_16)))))) ∧ (¬ r_9 < 0 → (vp_in r_9 1344 ∧ ∀ g_18 : St, g_18 = up g_7 10 r_9.toNatClampNeg (g_7 0 16) → V_X12_pop (g_18 0 16) g_18 k_8 (fun g_19 k_20 => post g_19 k_20)))))))))
abbrev RM_X12_assign : Room := { frames := 3, cells := 0, slots := 0, locals := 66 }
set_option maxHeartbeats 4000000 in
set_option maxRecDepth 100000 in
theorem m_X12_assign (l : Launch) (D : va_G) (cI cC cZ cJ : ClassId) (ad : Nat → Nat) (n : Nat) (g : St) (k : StL) {post : St → StL → Prop} (h : V_X12_assign n g k post) : MetV l yX12_assign cX12_assign 3 RM_X12_assign D (ty4 cI cC cZ cJ) (wM ad cI cC cZ cJ g k) [.ref (ad 0)] (fun u : St × StL => (wM ad cI cC cZ cJ u.1 u.2)) (fun u : St × StL => post u.1 u.2) := by
  refine mkV (by decide) (Nat.le_of_ble_eq_true rfl) ?_
  intro p e s m args below meth c A ls hC hr hlk hw hl
  have hx := hC.1
  have hb := hC.2.1
  have hl : lv_has ls 3 [(0, .ref (ad 0))] := hl
  unfold V_X12_assign at h
  refine lv_aload_n hx hb dX12_assign_0 rfl (lv_at hl 0 rfl) ?_
  refine lv_aload_n hx hb dX12_assign_1 rfl (lv_at hl 0 rfl) ?_
  refine lv_aload_n hx hb dX12_assign_2 rfl (lv_at hl 0 rfl) ?_
  refine gt (v := .ref (ad 18)) kfX12_125 0 hC hw rfl rfl dX12_assign_3 ?_
  refine lv_aload_n hx hb dX12_assign_6 rfl (lv_at hl 0 rfl) ?_
  refine gt (v := .int (g 0 12)) kfX12_278 0 hC hw rfl rfl dX12_assign_7 ?_
  refine lv_iconst (v := (1 : Int32)) hx hb dX12_assign_10 (by decide) ?_
  refine lv_isub hx hb dX12_assign_11 ?_
  refine ldI 18 0 hC hw rfl rfl h.1 dX12_assign_12 ?_
  have h := h.2
  refine cVIw (q0 := 0) kmX12_251 hC hw (m_X12_cdr l D cI cC cZ cJ ad (g 16 ((g 0 12) - (1 : Int32)).toNatClampNeg) g k h) rfl rfl ⟨by decide, by decide⟩ rfl rfl rfl hl.1 (Nat.le_of_ble_eq_true rfl) dX12_assign_13 ⟨Nat.zero_le _, Nat.zero_le _⟩ rfl ?_
  intro r_3 u H locs h hw
  obtain ⟨g_1, k_2⟩ := u
  dsimp only at h hw
  refine cVIw (q0 := 0) kmX12_260 hC hw (m_X12_car l D cI cC cZ cJ ad r_3 g_1 k_2 h) rfl rfl ⟨by decide, by decide⟩ rfl rfl rfl hl.1 (Nat.le_of_ble_eq_true rfl) dX12_assign_16 ⟨Nat.zero_le _, Nat.zero_le _⟩ rfl ?_
  intro r_6 u H locs h hw
  obtain ⟨g_4, k_5⟩ := u
  dsimp only at h hw
  refine lv_istore_n (lv' := [(1, .int r_6), (0, .ref (ad 0))]) hx hb dX12_assign_19 rfl hl (by decide) rfl (fun ls hl => ?_)
  refine lv_aload_n hx hb dX12_assign_20 rfl (lv_at hl 1 rfl) ?_
  refine lv_iload_n hx hb dX12_assign_21 rfl (lv_at hl 0 rfl) ?_
  refine lv_aload_n hx hb dX12_assign_22 rfl (lv_at hl 1 rfl) ?_
  refine gt (v := .ref (ad 21)) kfX12_134 0 hC hw rfl rfl dX12_assign_23 ?_
  refine lv_aload_n hx hb dX12_assign_26 rfl (lv_at hl 1 rfl) ?_
  refine gt (v := .int (g_4 0 12)) kfX12_278 0 hC hw rfl rfl dX12_assign_27 ?_
  refine lv_iconst (v := (1 : Int32)) hx hb dX12_assign_30 (by decide) ?_
  refine lv_isub hx hb dX12_assign_31 ?_
  refine ldI 21 0 hC hw rfl rfl h.1 dX12_assign_32 ?_
  have h := h.2
  refine cVIw (q0 := 0) kmX12_323 hC hw (m_X12_place l D cI cC cZ cJ ad n r_6 (g_4 19 ((g_4 0 12) - (1 : Int32)).toNatClampNeg) g_4 k_5 h) rfl rfl ⟨by decide, by decide⟩ rfl rfl rfl hl.1 (Nat.le_of_ble_eq_true rfl) dX12_assign_33 ⟨Nat.zero_le _, Nat.zero_le _⟩ rfl ?_
  intro r_9 u H locs h hw
  obtain ⟨g_7, k_8⟩ := u
  dsimp only at h hw
  refine lv_istore_n (lv' := [(2, .int r_9), (1, .int r_6), (0, .ref (ad 0))]) hx hb dX12_assign_36 rfl hl (by decide) rfl (fun ls hl => ?_)
  refine lv_iload_n hx hb dX12_assign_37 rfl (lv_at hl 0 rfl) ?_
  refine lv_if_lt (tgt := 54) hx hb dX12_assign_38 (by decide) (fun c_10 => ?_) (fun c_10 => ?_)
  · have h := h.1 c_10
    refine lv_aload_n hx hb dX12_assign_54 rfl (lv_at hl 2 rfl) ?_
    refine gt (v := .ref (ad 4)) kfX12_21 0 hC hw rfl rfl dX12_assign_55 ?_
    refine lv_iload_n hx hb dX12_assign_58 rfl (lv_at hl 1 rfl) ?_
    refine cSI ksX12_180 hC (m_X12_load l r_6 h) rfl rfl ⟨by decide, by decide⟩ rfl hl.1 (Nat.le_of_ble_eq_true rfl) dX12_assign_59 ⟨Nat.zero_le _, Nat.zero_le _⟩ rfl ?_
    intro r_11 h
    refine lv_aload_n hx hb dX12_assign_62 rfl (lv_at hl 2 rfl) ?_
    refine gt (v := .int (g_7 0 16)) kfX12_311 0 hC hw rfl rfl dX12_assign_63 ?_
    refine swM_4 h.1 hC hw dX12_assign_66 (fun H locs g_12 eg_12 hw => ?_)
    have h := h.2 g_12 eg_12
    refine lv_aload_n hx hb dX12_assign_67 rfl (lv_at hl 2 rfl) ?_
    refine gt (v := .ref (ad 3)) kfX12_17 0 hC hw rfl rfl dX12_assign_68 ?_
    refine lv_iload_n hx hb dX12_assign_71 rfl (lv_at hl 1 rfl) ?_
    refine cSI ksX12_180 hC (m_X12_load l r_6 h) rfl rfl ⟨by decide, by decide⟩ rfl hl.1 (Nat.le_of_ble_eq_true rfl) dX12_assign_72 ⟨Nat.zero_le _, Nat.zero_le _⟩ rfl ?_
    intro r_13 h
    refine lv_iconst (v := (1 : Int32)) hx hb dX12_assign_75 (by decide) ?_
    refine swM_3 h.1 hC hw dX12_assign_76 (fun H locs g_14 eg_14 hw => ?_)
    have h := h.2 g_14 eg_14
    refine lv_aload_n hx hb dX12_assign_77 rfl (lv_at hl 2 rfl) ?_
    refine lv_aload_n hx hb dX12_assign_78 rfl (lv_at hl 2 rfl) ?_
    refine gt (v := .int (g_14 0 16)) kfX12_311 0 hC hw rfl rfl dX12_assign_79 ?_
    refine cVVw (q0 := 0) kmX12_347 hC hw (m_X12_pop l D cI cC cZ cJ ad (g_14 0 16) g_14 k_8 h) rfl rfl ⟨by decide, by decide⟩ rfl rfl rfl hl.1 (Nat.le_of_ble_eq_true rfl) dX12_assign_82 ⟨Nat.zero_le _, Nat.zero_le _⟩ rfl ?_
    intro u H locs h hw
    obtain ⟨g_15, k_16⟩ := u
    dsimp only at h hw
    exact rtV (wf := (fun u : St × StL => (wM ad cI cC cZ cJ u.1 u.2))) (g_15, k_16) hC hr hlk hw h dX12_assign_85
  · have h := h.2 c_10
    refine lv_aload_n hx hb dX12_assign_41 rfl (lv_at hl 2 rfl) ?_
    refine gt (v := .ref (ad 12)) kfX12_107 0 hC hw rfl rfl dX12_assign_42 ?_
    refine lv_iload_n hx hb dX12_assign_45 rfl (lv_at hl 0 rfl) ?_
    refine lv_aload_n hx hb dX12_assign_46 rfl (lv_at hl 2 rfl) ?_
    refine gt (v := .int (g_7 0 16)) kfX12_311 0 hC hw rfl rfl dX12_assign_47 ?_
    refine swM_12 h.1 hC hw dX12_assign_50 (fun H locs g_18 eg_18 hw => ?_)
    have h := h.2 g_18 eg_18
    refine lv_goto (tgt := 77) hx hb dX12_assign_51 (by decide) ?_
    refine lv_aload_n hx hb dX12_assign_77 rfl (lv_at hl 2 rfl) ?_
    refine lv_aload_n hx hb dX12_assign_78 rfl (lv_at hl 2 rfl) ?_
    refine gt (v := .int (g_18 0 16)) kfX12_311 0 hC hw rfl rfl dX12_assign_79 ?_
    refine cVVw (q0 := 0) kmX12_347 hC hw (m_X12_pop l D cI cC cZ cJ ad (g_18 0 16) g_18 k_8 h) rfl rfl ⟨by decide, by decide⟩ rfl rfl rfl hl.1 (Nat.le_of_ble_eq_true rfl) dX12_assign_82 ⟨Nat.zero_le _, Nat.zero_le _⟩ rfl ?_
    intro u H locs h hw
    obtain ⟨g_19, k_20⟩ := u
    dsimp only at h hw
    exact rtV (wf := (fun u : St × StL => (wM ad cI cC cZ cJ u.1 u.2))) (g_19, k_20) hC hr hlk hw h dX12_assign_85
def V_X12_again_82 (post : St → StL → Prop) (x1 : Int32) (y0 : Int32) (y1 : Int32) (g : St) (k : StL) : Prop := (vp_in y1 1002 ∧ ∀ g_1 : St, g_1 = up g 18 y1.toNatClampNeg y0 → (vp_in x1 1002 ∧ ((¬ (g_1 18 x1.toNatClampNeg) = 0 → V_X12_next  g_1 k (fun g_3 k_4 => post g_3 k_4)) ∧ ((g_1 18 x1.toNatClampNeg) = 0 → (vp_in x1 1002 ∧ V_X12_cdr (g_1 16 x1.toNatClampNeg) g_1 k (fun r_8 g_6 k_7 => V_X12_car r_8 g_6 k_7 (fun r_11 g_9 k_10 => V_X12_ask r_11 g_9 k_10 (fun g_12 k_13 => post g_12 k_13))))))))
def V_X12_again_32 (post : St → StL → Prop) (x1 : Int32) (g : St) (k : StL) : Prop := (vp_in x1 1002 ∧ ((¬ (g 18 x1.toNatClampNeg) = 0 → (vp_in x1 1002 ∧ ((¬ (g 17 x1.toNatClampNeg) = (1048576 : Int32) → V_X12_again_82 post x1 (1 : Int32) x1 g k) ∧ ((g 17 x1.toNatClampNeg) = (1048576 : Int32) → V_X12_again_82 post x1 (0 : Int32) x1 g k)))) ∧ ((g 18 x1.toNatClampNeg) = 0 → (vp_in x1 1002 ∧ V_X12_cdr (g 16 x1.toNatClampNeg) g k (fun r_19 g_17 k_18 => V_X12_cdr r_19 g_17 k_18 (fun r_22 g_20 k_21 => (vp_in x1 1002 ∧ ∀ g_23 : St, g_23 = up g_20 17 x1.toNatClampNeg r_22 → (vp_in x1 1002 ∧ ((¬ (g_23 17 x1.toNatClampNeg) = (1048576 : Int32) → V_X12_again_82 post x1 (1 : Int32) x1 g_23 k_21) ∧ ((g_23 17 x1.toNatClampNeg) = (1048576 : Int32) → V_X12_again_82 post x1 (0 : Int32) x1 g_23 k_21))))))))))
def V_X12_again (g : St) (k : StL) (post : St → StL → Prop) : Prop := ∀ x_25 : Int32, x_25 = ((g 0 12) - (1 : Int32)) → (vp_in x_25 1002 ∧ ((¬ (g 18 x_25.toNatClampNeg) = 0 → V_X12_again_32 post x_25 g k) ∧ ((g 18 x_25.toNatClampNeg) = 0 → ((¬ (g 0 16) = (1048576 : Int32) → V_X12_again_32 post x_25 g k) ∧ ((g 0 16) = (1048576 : Int32) → V_X12_pop (1048576 : Int32) g k (fun g_28 k_29 => post g_28 k_29))))))
abbrev RM_X12_again : Room := { frames := 3, cells := 0, slots := 0, locals := 62 }
set_option maxHeartbeats 4000000 in
set_option maxRecDepth 100000 in
theorem m_X12_again (l : Launch) (D : va_G) (cI cC cZ cJ : ClassId) (ad : Nat → Nat) (g : St) (k : StL) {post : St → StL → Prop} (h : V_X12_again g k post) : MetV l yX12_again cX12_again 2 RM_X12_again D (ty4 cI cC cZ cJ) (wM ad cI cC cZ cJ g k) [.ref (ad 0)] (fun u : St × StL => (wM ad cI cC cZ cJ u.1 u.2)) (fun u : St × StL => post u.1 u.2) := by
  refine mkV (by decide) (Nat.le_of_ble_eq_true rfl) ?_
  intro p e s m args below meth c A ls hC hr hlk hw hl
  have hx := hC.1
  have hb := hC.2.1
  have hl : lv_has ls 2 [(0, .ref (ad 0))] := hl
  have w_82 : ∀  (x1 : Int32) (y0 : Int32) (y1 : Int32) (g : St) (k : StL) (H : Heap) (locs : List Loc) (ls : Array Slot), V_X12_again_82 post x1 y0 y1 g k → Wd D (ty4 cI cC cZ cJ) A s (wM ad cI cC cZ cJ g k) H locs → lv_has ls 2 [(0, .ref (ad 0)), (1, .int x1)] → W p l e RM_X12_again s m args below meth c H locs 0 0 (QV below D (ty4 cI cC cZ cJ) A args s (fun u : St × StL => (wM ad cI cC cZ cJ u.1 u.2)) (fun u : St × StL => post u.1 u.2)) (F0 m 82 ls [.int y0, .int y1, .ref (ad 20)]) := by
    intro x1 y0 y1 g k H locs ls h hw hl
    unfold V_X12_again_82 at h
    refine swM_20 h.1 hC hw dX12_again_82 (fun H locs g_1 eg_1 hw => ?_)
    have h := h.2 g_1 eg_1
    refine lv_aload_n hx hb dX12_again_83 rfl (lv_at hl 0 rfl) ?_
    refine gt (v := .ref (ad 20)) kfX12_131 0 hC hw rfl rfl dX12_again_84 ?_
    refine lv_iload_n hx hb dX12_again_87 rfl (lv_at hl 1 rfl) ?_
    refine ldI 20 0 hC hw rfl rfl h.1 dX12_again_88 ?_
    have h := h.2
    refine lv_if_ne (tgt := 113) hx hb dX12_again_89 (by decide) (fun c_2 => ?_) (fun c_2 => ?_)
    · have h := h.1 c_2
      refine lv_aload_n hx hb dX12_again_113 rfl (lv_at hl 0 rfl) ?_
      refine cVVw (q0 := 0) kmX12_341 hC hw (m_X12_next l D cI cC cZ cJ ad  g_1 k h) rfl rfl ⟨by decide, by decide⟩ rfl rfl rfl hl.1 (Nat.le_of_ble_eq_true rfl) dX12_again_114 ⟨Nat.zero_le _, Nat.zero_le _⟩ rfl ?_
      intro u H locs h hw
      obtain ⟨g_3, k_4⟩ := u
      dsimp only at h hw
      exact rtV (wf := (fun u : St × StL => (wM ad cI cC cZ cJ u.1 u.2))) (g_3, k_4) hC hr hlk hw h dX12_again_117
    · have h := h.2 c_2
      refine lv_aload_n hx hb dX12_again_92 rfl (lv_at hl 0 rfl) ?_
      refine lv_aload_n hx hb dX12_again_93 rfl (lv_at hl 0 rfl) ?_
      refine lv_aload_n hx hb dX12_again_94 rfl (lv_at hl 0 rfl) ?_
      refine lv_aload_n hx hb dX12_again_95 rfl (lv_at hl 0 rfl) ?_
      refine gt (v := .ref (ad 18)) kfX12_125 0 hC hw rfl rfl dX12_again_96 ?_
      refine lv_iload_n hx hb dX12_again_99 rfl (lv_at hl 1 rfl) ?_
      refine ldI 18 0 hC hw rfl rfl h.1 dX12_again_100 ?_
      have h := h.2
      refine cVIw (q0 := 0) kmX12_251 hC hw (m_X12_cdr l D cI cC cZ cJ ad (g_1 16 x1.toNatClampNeg) g_1 k h) rfl rfl ⟨by decide, by decide⟩ rfl rfl rfl hl.1 (Nat.le_of_ble_eq_true rfl) dX12_again_101 ⟨Nat.zero_le _, Nat.zero_le _⟩ rfl ?_
      intro r_8 u H locs h hw
      obtain ⟨g_6, k_7⟩ := u
      dsimp only at h hw
      refine cVIw (q0 := 0) kmX12_260 hC hw (m_X12_car l D cI cC cZ cJ ad r_8 g_6 k_7 h) rfl rfl ⟨by decide, by decide⟩ rfl rfl rfl hl.1 (Nat.le_of_ble_eq_true rfl) dX12_again_104 ⟨Nat.zero_le _, Nat.zero_le _⟩ rfl ?_
      intro r_11 u H locs h hw
      obtain ⟨g_9, k_10⟩ := u
      dsimp only at h hw
      refine cVVw (q0 := 0) kmX12_317 hC hw (m_X12_ask l D cI cC cZ cJ ad r_11 g_9 k_10 h) rfl rfl ⟨by decide, by decide⟩ rfl rfl rfl hl.1 (Nat.le_of_ble_eq_true rfl) dX12_again_107 ⟨Nat.zero_le _, Nat.zero_le _⟩ rfl ?_
      intro u H locs h hw
      obtain ⟨g_12, k_13⟩ := u
      dsimp only at h hw
      refine lv_goto (tgt := 117) hx hb dX12_again_110 (by decide) ?_
      exact rtV (wf := (fun u : St × StL => (wM ad cI cC cZ cJ u.1 u.2))) (g_12, k_13) hC hr hlk hw h dX12_again_117
  have w_32 : ∀  (x1 : Int32) (g : St) (k : StL) (H : Heap) (locs : List Loc) (ls : Array Slot), V_X12_again_32 post x1 g k → Wd D (ty4 cI cC cZ cJ) A s (wM ad cI cC cZ cJ g k) H locs → lv_has ls 2 [(0, .ref (ad 0)), (1, .int x1)] → W p l e RM_X12_again s m args below meth c H locs 0 0 (QV below D (ty4 cI cC cZ cJ) A args s (fun u : St × StL => (wM ad cI cC cZ cJ u.1 u.2)) (fun u : St × StL => post u.1 u.2)) (F0 m 32 ls []) := by
    intro x1 g k H locs ls h hw hl
    unfold V_X12_again_32 at h
    refine lv_aload_n hx hb dX12_again_32 rfl (lv_at hl 0 rfl) ?_
    refine gt (v := .ref (ad 20)) kfX12_131 0 hC hw rfl rfl dX12_again_33 ?_
    refine lv_iload_n hx hb dX12_again_36 rfl (lv_at hl 1 rfl) ?_
    refine ldI 20 0 hC hw rfl rfl h.1 dX12_again_37 ?_
    have h := h.2
    refine lv_if_ne (tgt := 61) hx hb dX12_again_38 (by decide) (fun c_15 => ?_) (fun c_15 => ?_)
    · have h := h.1 c_15
      refine lv_aload_n hx hb dX12_again_61 rfl (lv_at hl 0 rfl) ?_
      refine gt (v := .ref (ad 20)) kfX12_131 0 hC hw rfl rfl dX12_again_62 ?_
      refine lv_iload_n hx hb dX12_again_65 rfl (lv_at hl 1 rfl) ?_
      refine lv_aload_n hx hb dX12_again_66 rfl (lv_at hl 0 rfl) ?_
      refine gt (v := .ref (ad 19)) kfX12_128 0 hC hw rfl rfl dX12_again_67 ?_
      refine lv_iload_n hx hb dX12_again_70 rfl (lv_at hl 1 rfl) ?_
      refine ldI 19 0 hC hw rfl rfl h.1 dX12_again_71 ?_
      have h := h.2
      refine lv_ldc (v := (1048576 : Int32)) hx hb hC.2.2.2.1 (hC.2.2.2.2 _ (List.mem_cons_of_mem _ kcX12_184)) dX12_again_72 ?_
      refine lv_icmp_ne (tgt := 81) hx hb dX12_again_74 (by decide) (fun c_16 => ?_) (fun c_16 => ?_)
      · have h := h.1 c_16
        refine lv_iconst (v := (1 : Int32)) hx hb dX12_again_81 (by decide) ?_
        exact w_82 x1 (1 : Int32) x1 g k _ _ _ h hw (lv_sub hl [0, 1] rfl)
      · have h := h.2 c_16
        refine lv_iconst (v := (0 : Int32)) hx hb dX12_again_77 (by decide) ?_
        refine lv_goto (tgt := 82) hx hb dX12_again_78 (by decide) ?_
        exact w_82 x1 (0 : Int32) x1 g k _ _ _ h hw (lv_sub hl [0, 1] rfl)
    · have h := h.2 c_15
      refine lv_aload_n hx hb dX12_again_41 rfl (lv_at hl 0 rfl) ?_
      refine gt (v := .ref (ad 19)) kfX12_128 0 hC hw rfl rfl dX12_again_42 ?_
      refine lv_iload_n hx hb dX12_again_45 rfl (lv_at hl 1 rfl) ?_
      refine lv_aload_n hx hb dX12_again_46 rfl (lv_at hl 0 rfl) ?_
      refine lv_aload_n hx hb dX12_again_47 rfl (lv_at hl 0 rfl) ?_
      refine lv_aload_n hx hb dX12_again_48 rfl (lv_at hl 0 rfl) ?_
      refine gt (v := .ref (ad 18)) kfX12_125 0 hC hw rfl rfl dX12_again_49 ?_
      refine lv_iload_n hx hb dX12_again_52 rfl (lv_at hl 1 rfl) ?_
      refine ldI 18 0 hC hw rfl rfl h.1 dX12_again_53 ?_
      have h := h.2
      refine cVIw (q0 := 0) kmX12_251 hC hw (m_X12_cdr l D cI cC cZ cJ ad (g 16 x1.toNatClampNeg) g k h) rfl rfl ⟨by decide, by decide⟩ rfl rfl rfl hl.1 (Nat.le_of_ble_eq_true rfl) dX12_again_54 ⟨Nat.zero_le _, Nat.zero_le _⟩ rfl ?_
      intro r_19 u H locs h hw
      obtain ⟨g_17, k_18⟩ := u
      dsimp only at h hw
      refine cVIw (q0 := 0) kmX12_251 hC hw (m_X12_cdr l D cI cC cZ cJ ad r_19 g_17 k_18 h) rfl rfl ⟨by decide, by decide⟩ rfl rfl rfl hl.1 (Nat.le_of_ble_eq_true rfl) dX12_again_57 ⟨Nat.zero_le _, Nat.zero_le _⟩ rfl ?_
      intro r_22 u H locs h hw
      obtain ⟨g_20, k_21⟩ := u
      dsimp only at h hw
      refine swM_19 h.1 hC hw dX12_again_60 (fun H locs g_23 eg_23 hw => ?_)
      have h := h.2 g_23 eg_23
      refine lv_aload_n hx hb dX12_again_61 rfl (lv_at hl 0 rfl) ?_
      refine gt (v := .ref (ad 20)) kfX12_131 0 hC hw rfl rfl dX12_again_62 ?_
      refine lv_iload_n hx hb dX12_again_65 rfl (lv_at hl 1 rfl) ?_
      refine lv_aload_n hx hb dX12_again_66 rfl (lv_at hl 0 rfl) ?_
      refine gt (v := .ref (ad 19)) kfX12_128 0 hC hw rfl rfl dX12_again_67 ?_
      refine lv_iload_n hx hb dX12_again_70 rfl (lv_at hl 1 rfl) ?_
      refine ldI 19 0 hC hw rfl rfl h.1 dX12_again_71 ?_
      have h := h.2
      refine lv_ldc (v := (1048576 : Int32)) hx hb hC.2.2.2.1 (hC.2.2.2.2 _ (List.mem_cons_of_mem _ kcX12_184)) dX12_again_72 ?_
      refine lv_icmp_ne (tgt := 81) hx hb dX12_again_74 (by decide) (fun c_24 => ?_) (fun c_24 => ?_)
      · have h := h.1 c_24
        refine lv_iconst (v := (1 : Int32)) hx hb dX12_again_81 (by decide) ?_
        exact w_82 x1 (1 : Int32) x1 g_23 k_21 _ _ _ h hw (lv_sub hl [0, 1] rfl)
      · have h := h.2 c_24
        refine lv_iconst (v := (0 : Int32)) hx hb dX12_again_77 (by decide) ?_
        refine lv_goto (tgt := 82) hx hb dX12_again_78 (by decide) ?_
        exact w_82 x1 (0 : Int32) x1 g_23 k_21 _ _ _ h hw (lv_sub hl [0, 1] rfl)
  unfold V_X12_again at h
  refine lv_aload_n hx hb dX12_again_0 rfl (lv_at hl 0 rfl) ?_
  refine gt (v := .int (g 0 12)) kfX12_278 0 hC hw rfl rfl dX12_again_1 ?_
  refine lv_iconst (v := (1 : Int32)) hx hb dX12_again_4 (by decide) ?_
  refine lv_isub hx hb dX12_again_5 ?_
  refine lv_topi (fun x_25 ex_25 => ?_)
  have h := h x_25 ex_25
  refine lv_istore_n (lv' := [(1, .int x_25), (0, .ref (ad 0))]) hx hb dX12_again_6 rfl hl (by decide) rfl (fun ls hl => ?_)
  refine lv_aload_n hx hb dX12_again_7 rfl (lv_at hl 1 rfl) ?_
  refine gt (v := .ref (ad 20)) kfX12_131 0 hC hw rfl rfl dX12_again_8 ?_
  refine lv_iload_n hx hb dX12_again_11 rfl (lv_at hl 0 rfl) ?_
  refine ldI 20 0 hC hw rfl rfl h.1 dX12_again_12 ?_
  have h := h.2
  refine lv_if_ne (tgt := 32) hx hb dX12_again_13 (by decide) (fun c_26 => ?_) (fun c_26 => ?_)
  · have h := h.1 c_26
    exact w_32 x_25 g k _ _ _ h hw (lv_sub hl [1, 0] rfl)
  · have h := h.2 c_26
    refine lv_aload_n hx hb dX12_again_16 rfl (lv_at hl 1 rfl) ?_
    refine gt (v := .int (g 0 16)) kfX12_311 0 hC hw rfl rfl dX12_again_17 ?_
    refine lv_ldc (v := (1048576 : Int32)) hx hb hC.2.2.2.1 (hC.2.2.2.2 _ (List.mem_cons_of_mem _ kcX12_184)) dX12_again_20 ?_
    refine lv_icmp_ne (tgt := 32) hx hb dX12_again_22 (by decide) (fun c_27 => ?_) (fun c_27 => ?_)
    · have h := h.1 c_27
      exact w_32 x_25 g k _ _ _ h hw (lv_sub hl [1, 0] rfl)
    · have h := h.2 c_27
      refine lv_aload_n hx hb dX12_again_25 rfl (lv_at hl 1 rfl) ?_
      refine lv_ldc (v := (1048576 : Int32)) hx hb hC.2.2.2.1 (hC.2.2.2.2 _ (List.mem_cons_of_mem _ kcX12_184)) dX12_again_26 ?_
      refine cVVw (q0 := 0) kmX12_347 hC hw (m_X12_pop l D cI cC cZ cJ ad (1048576 : Int32) g k h) rfl rfl ⟨by decide, by decide⟩ rfl rfl rfl hl.1 (Nat.le_of_ble_eq_true rfl) dX12_again_28 ⟨Nat.zero_le _, Nat.zero_le _⟩ rfl ?_
      intro u H locs h hw
      obtain ⟨g_28, k_29⟩ := u
      dsimp only at h hw
      exact rtV (wf := (fun u : St × StL => (wM ad cI cC cZ cJ u.1 u.2))) (g_28, k_29) hC hr hlk hw h dX12_again_31
def V_X12_mark_34 (post : St → StL → Prop) (x1 : Int32) (x2 : Int32) (g : St) (k : StL) : Prop := ((x2 = (5 : Int32) → V_X12_load x1 (fun r_2 => (vp_in r_2 168 ∧ ∀ g_3 : St, g_3 = up g 11 r_2.toNatClampNeg (vp_nar .boolean (1 : Int32)) → post g_3 k))) ∧ (¬ x2 = (5 : Int32) → ((¬ x2 = (6 : Int32) → post g k) ∧ (x2 = (6 : Int32) → V_X12_load x1 (fun r_5 => (vp_in r_5 168 ∧ ∀ g_6 : St, g_6 = up g 11 r_5.toNatClampNeg (vp_nar .boolean (1 : Int32)) → post g_6 k))))))
def V_X12_mark (x1 : Int32) (g : St) (k : StL) (post : St → StL → Prop) : Prop := V_X12_sortOf x1 (fun r_7 => ((¬ r_7 = (4 : Int32) → V_X12_mark_34 post x1 r_7 g k) ∧ (r_7 = (4 : Int32) → V_X12_load x1 (fun r_9 => ((r_9 < (2000 : Int32) → V_X12_mark_34 post x1 r_7 g k) ∧ (¬ r_9 < (2000 : Int32) → V_X12_load x1 (fun r_11 => (vp_in (r_11 - (2000 : Int32)) 168 ∧ ∀ g_12 : St, g_12 = up g 11 (r_11 - (2000 : Int32)).toNatClampNeg (vp_nar .boolean (1 : Int32)) → V_X12_mark_34 post x1 r_7 g_12 k))))))))
abbrev RM_X12_mark : Room := { frames := 1, cells := 0, slots := 0, locals := 20 }
set_option maxHeartbeats 4000000 in
set_option maxRecDepth 100000 in
theorem m_X12_mark (l : Launch) (D : va_G) (cI cC cZ cJ : ClassId) (ad : Nat → Nat) (x1 : Int32) (g : St) (k : StL) {post : St → StL → Prop} (h : V_X12_mark x1 g k post) : MetV l yX12_mark cX12_mark 3 RM_X12_mark D (ty4 cI cC cZ cJ) (wM ad cI cC cZ cJ g k) [.ref (ad 0), .int x1] (fun u : St × StL => (wM ad cI cC cZ cJ u.1 u.2)) (fun u : St × StL => post u.1 u.2) := by
  refine mkV (by decide) (Nat.le_of_ble_eq_true rfl) ?_
  intro p e s m args below meth c A ls hC hr hlk hw hl
  have hx := hC.1
  have hb := hC.2.1
  have hl : lv_has ls 3 [(0, .ref (ad 0)), (1, .int x1)] := hl
  have w_34 : ∀  (x1 : Int32) (x2 : Int32) (g : St) (k : StL) (H : Heap) (locs : List Loc) (ls : Array Slot), V_X12_mark_34 post x1 x2 g k → Wd D (ty4 cI cC cZ cJ) A s (wM ad cI cC cZ cJ g k) H locs → lv_has ls 3 [(0, .ref (ad 0)), (1, .int x1), (2, .int x2)] → W p l e RM_X12_mark s m args below meth c H locs 0 0 (QV below D (ty4 cI cC cZ cJ) A args s (fun u : St × StL => (wM ad cI cC cZ cJ u.1 u.2)) (fun u : St × StL => post u.1 u.2)) (F0 m 34 ls []) := by
    intro x1 x2 g k H locs ls h hw hl
    unfold V_X12_mark_34 at h
    refine lv_iload_n hx hb dX12_mark_34 rfl (lv_at hl 2 rfl) ?_
    refine lv_iconst (v := (5 : Int32)) hx hb dX12_mark_35 (by decide) ?_
    refine lv_icmp_eq (tgt := 45) hx hb dX12_mark_36 (by decide) (fun c_1 => ?_) (fun c_1 => ?_)
    · have h := h.1 c_1
      refine lv_aload_n hx hb dX12_mark_45 rfl (lv_at hl 0 rfl) ?_
      refine gt (v := .ref (ad 13)) kfX12_110 0 hC hw rfl rfl dX12_mark_46 ?_
      refine lv_iload_n hx hb dX12_mark_49 rfl (lv_at hl 1 rfl) ?_
      refine cSI ksX12_180 hC (m_X12_load l x1 h) rfl rfl ⟨by decide, by decide⟩ rfl hl.1 (Nat.le_of_ble_eq_true rfl) dX12_mark_50 ⟨Nat.zero_le _, Nat.zero_le _⟩ rfl ?_
      intro r_2 h
      refine lv_iconst (v := (1 : Int32)) hx hb dX12_mark_53 (by decide) ?_
      refine swM_13 h.1 hC hw dX12_mark_54 (fun H locs g_3 eg_3 hw => ?_)
      have h := h.2 g_3 eg_3
      exact rtV (wf := (fun u : St × StL => (wM ad cI cC cZ cJ u.1 u.2))) (g_3, k) hC hr hlk hw h dX12_mark_55
    · have h := h.2 c_1
      refine lv_iload_n hx hb dX12_mark_39 rfl (lv_at hl 2 rfl) ?_
      refine lv_bipush (v := (6 : Int32)) hx hb dX12_mark_40 (by decide) ?_
      refine lv_icmp_ne (tgt := 55) hx hb dX12_mark_42 (by decide) (fun c_4 => ?_) (fun c_4 => ?_)
      · have h := h.1 c_4
        exact rtV (wf := (fun u : St × StL => (wM ad cI cC cZ cJ u.1 u.2))) (g, k) hC hr hlk hw h dX12_mark_55
      · have h := h.2 c_4
        refine lv_aload_n hx hb dX12_mark_45 rfl (lv_at hl 0 rfl) ?_
        refine gt (v := .ref (ad 13)) kfX12_110 0 hC hw rfl rfl dX12_mark_46 ?_
        refine lv_iload_n hx hb dX12_mark_49 rfl (lv_at hl 1 rfl) ?_
        refine cSI ksX12_180 hC (m_X12_load l x1 h) rfl rfl ⟨by decide, by decide⟩ rfl hl.1 (Nat.le_of_ble_eq_true rfl) dX12_mark_50 ⟨Nat.zero_le _, Nat.zero_le _⟩ rfl ?_
        intro r_5 h
        refine lv_iconst (v := (1 : Int32)) hx hb dX12_mark_53 (by decide) ?_
        refine swM_13 h.1 hC hw dX12_mark_54 (fun H locs g_6 eg_6 hw => ?_)
        have h := h.2 g_6 eg_6
        exact rtV (wf := (fun u : St × StL => (wM ad cI cC cZ cJ u.1 u.2))) (g_6, k) hC hr hlk hw h dX12_mark_55
  unfold V_X12_mark at h
  refine lv_iload_n hx hb dX12_mark_0 rfl (lv_at hl 1 rfl) ?_
  refine cSI ksX12_254 hC (m_X12_sortOf l x1 h) rfl rfl ⟨by decide, by decide⟩ rfl hl.1 (Nat.le_of_ble_eq_true rfl) dX12_mark_1 ⟨Nat.zero_le _, Nat.zero_le _⟩ rfl ?_
  intro r_7 h
  refine lv_istore_n (lv' := [(2, .int r_7), (0, .ref (ad 0)), (1, .int x1)]) hx hb dX12_mark_4 rfl hl (by decide) rfl (fun ls hl => ?_)
  refine lv_iload_n hx hb dX12_mark_5 rfl (lv_at hl 0 rfl) ?_
  refine lv_iconst (v := (4 : Int32)) hx hb dX12_mark_6 (by decide) ?_
  refine lv_icmp_ne (tgt := 34) hx hb dX12_mark_7 (by decide) (fun c_8 => ?_) (fun c_8 => ?_)
  · have h := h.1 c_8
    exact w_34 x1 r_7 g k _ _ _ h hw (lv_sub hl [1, 2, 0] rfl)
  · have h := h.2 c_8
    refine lv_iload_n hx hb dX12_mark_10 rfl (lv_at hl 2 rfl) ?_
    refine cSI ksX12_180 hC (m_X12_load l x1 h) rfl rfl ⟨by decide, by decide⟩ rfl hl.1 (Nat.le_of_ble_eq_true rfl) dX12_mark_11 ⟨Nat.zero_le _, Nat.zero_le _⟩ rfl ?_
    intro r_9 h
    refine lv_sipush (v := (2000 : Int32)) hx hb dX12_mark_14 (by decide) ?_
    refine lv_icmp_lt (tgt := 34) hx hb dX12_mark_17 (by decide) (fun c_10 => ?_) (fun c_10 => ?_)
    · have h := h.1 c_10
      exact w_34 x1 r_7 g k _ _ _ h hw (lv_sub hl [1, 2, 0] rfl)
    · have h := h.2 c_10
      refine lv_aload_n hx hb dX12_mark_20 rfl (lv_at hl 1 rfl) ?_
      refine gt (v := .ref (ad 13)) kfX12_110 0 hC hw rfl rfl dX12_mark_21 ?_
      refine lv_iload_n hx hb dX12_mark_24 rfl (lv_at hl 2 rfl) ?_
      refine cSI ksX12_180 hC (m_X12_load l x1 h) rfl rfl ⟨by decide, by decide⟩ rfl hl.1 (Nat.le_of_ble_eq_true rfl) dX12_mark_25 ⟨Nat.zero_le _, Nat.zero_le _⟩ rfl ?_
      intro r_11 h
      refine lv_sipush (v := (2000 : Int32)) hx hb dX12_mark_28 (by decide) ?_
      refine lv_isub hx hb dX12_mark_31 ?_
      refine lv_iconst (v := (1 : Int32)) hx hb dX12_mark_32 (by decide) ?_
      refine swM_13 h.1 hC hw dX12_mark_33 (fun H locs g_12 eg_12 hw => ?_)
      have h := h.2 g_12 eg_12
      exact w_34 x1 r_7 g_12 k _ _ _ h hw (lv_sub hl [1, 2, 0] rfl)
def V_X12_markFrame (x1 : Int32) (g : St) (k : StL) (post : St → StL → Prop) : Prop := ((x1 ≤ 0 → post g k) ∧ (¬ x1 ≤ 0 → (vp_in (x1 - (1 : Int32)) 168 ∧ ∀ g_2 : St, g_2 = up g 11 (x1 - (1 : Int32)).toNatClampNeg (vp_nar .boolean (1 : Int32)) → post g_2 k)))
abbrev RM_X12_markFrame : Room := { frames := 0, cells := 0, slots := 0, locals := 0 }
set_option maxHeartbeats 4000000 in
set_option maxRecDepth 100000 in
theorem m_X12_markFrame (l : Launch) (D : va_G) (cI cC cZ cJ : ClassId) (ad : Nat → Nat) (x1 : Int32) (g : St) (k : StL) {post : St → StL → Prop} (h : V_X12_markFrame x1 g k post) : MetV l yX12_markFrame cX12_markFrame 2 RM_X12_markFrame D (ty4 cI cC cZ cJ) (wM ad cI cC cZ cJ g k) [.ref (ad 0), .int x1] (fun u : St × StL => (wM ad cI cC cZ cJ u.1 u.2)) (fun u : St × StL => post u.1 u.2) := by
  refine mkV (by decide) (Nat.le_of_ble_eq_true rfl) ?_
  intro p e s m args below meth c A ls hC hr hlk hw hl
  have hx := hC.1
  have hb := hC.2.1
  have hl : lv_has ls 2 [(0, .ref (ad 0)), (1, .int x1)] := hl
  unfold V_X12_markFrame at h
  refine lv_iload_n hx hb dX12_markFrame_0 rfl (lv_at hl 1 rfl) ?_
  refine lv_if_le (tgt := 13) hx hb dX12_markFrame_1 (by decide) (fun c_1 => ?_) (fun c_1 => ?_)
  · have h := h.1 c_1
    exact rtV (wf := (fun u : St × StL => (wM ad cI cC cZ cJ u.1 u.2))) (g, k) hC hr hlk hw h dX12_markFrame_13
  · have h := h.2 c_1
    refine lv_aload_n hx hb dX12_markFrame_4 rfl (lv_at hl 0 rfl) ?_
    refine gt (v := .ref (ad 13)) kfX12_110 0 hC hw rfl rfl dX12_markFrame_5 ?_
    refine lv_iload_n hx hb dX12_markFrame_8 rfl (lv_at hl 1 rfl) ?_
    refine lv_iconst (v := (1 : Int32)) hx hb dX12_markFrame_9 (by decide) ?_
    refine lv_isub hx hb dX12_markFrame_10 ?_
    refine lv_iconst (v := (1 : Int32)) hx hb dX12_markFrame_11 (by decide) ?_
    refine swM_13 h.1 hC hw dX12_markFrame_12 (fun H locs g_2 eg_2 hw => ?_)
    have h := h.2 g_2 eg_2
    exact rtV (wf := (fun u : St × StL => (wM ad cI cC cZ cJ u.1 u.2))) (g_2, k) hC hr hlk hw h dX12_markFrame_13
def V_X12_marks_4 (post : Int32 → St → StL → Prop) : Nat → Int32 → Int32 → St → StL → Prop
  | 0, _, _, _, _ => False
  | n + 1, x1, x2, g, k => (((168 : Int32) ≤ x2 → post x1 g k) ∧ (¬ (168 : Int32) ≤ x2 → (vp_in x2 168 ∧ (((g 11 x2.toNatClampNeg) = 0 → ∀ x_3 : Int32, x_3 = (x1 + (0 : Int32)) → ∀ x_4 : Int32, x_4 = x2 + (1 : Int32) → V_X12_marks_4 post n x_3 x_4 g k) ∧ (¬ (g 11 x2.toNatClampNeg) = 0 → ∀ x_5 : Int32, x_5 = (x1 + (1 : Int32)) → ∀ x_6 : Int32, x_6 = x2 + (1 : Int32) → V_X12_marks_4 post n x_5 x_6 g k)))))
def V_X12_marks (n : Nat) (g : St) (k : StL) (post : Int32 → St → StL → Prop) : Prop := ∀ x_7 : Int32, x_7 = (0 : Int32) → ∀ x_8 : Int32, x_8 = (0 : Int32) → V_X12_marks_4 post n x_7 x_8 g k
abbrev RM_X12_marks : Room := { frames := 0, cells := 0, slots := 0, locals := 0 }
set_option maxHeartbeats 4000000 in
set_option maxRecDepth 100000 in
theorem m_X12_marks (l : Launch) (D : va_G) (cI cC cZ cJ : ClassId) (ad : Nat → Nat) (n : Nat) (g : St) (k : StL) {post : Int32 → St → StL → Prop} (h : V_X12_marks n g k post) : MetI l yX12_marks cX12_marks 3 .int RM_X12_marks D (ty4 cI cC cZ cJ) (wM ad cI cC cZ cJ g k) [.ref (ad 0)] (fun u : St × StL => (wM ad cI cC cZ cJ u.1 u.2)) (fun (r : Int32) (u : St × StL) => post r u.1 u.2) := by
  refine mkI (by decide) (Nat.le_of_ble_eq_true rfl) ?_
  intro p e s m args below meth c A ls hC hr hlk hw hl
  have hx := hC.1
  have hb := hC.2.1
  have hl : lv_has ls 3 [(0, .ref (ad 0))] := hl
  have w_4 : ∀ (n : Nat) (x1 : Int32) (x2 : Int32) (g : St) (k : StL) (H : Heap) (locs : List Loc) (ls : Array Slot), V_X12_marks_4 post n x1 x2 g k → Wd D (ty4 cI cC cZ cJ) A s (wM ad cI cC cZ cJ g k) H locs → lv_has ls 3 [(0, .ref (ad 0)), (1, .int x1), (2, .int x2)] → W p l e RM_X12_marks s m args below meth c H locs 0 0 (QI below D (ty4 cI cC cZ cJ) A args s (fun u : St × StL => (wM ad cI cC cZ cJ u.1 u.2)) (fun (r : Int32) (u : St × StL) => post r u.1 u.2)) (F0 m 4 ls []) := by
    intro n
    induction n with
    | zero =>
      intro x1 x2 g k H locs ls h
      exact False.elim h
    | succ n ih =>
      intro x1 x2 g k H locs ls h hw hl
      rw [V_X12_marks_4] at h
      refine lv_iload_n hx hb dX12_marks_4 rfl (lv_at hl 2 rfl) ?_
      refine lv_sipush (v := (168 : Int32)) hx hb dX12_marks_5 (by decide) ?_
      refine lv_icmp_ge (tgt := 34) hx hb dX12_marks_8 (by decide) (fun c_1 => ?_) (fun c_1 => ?_)
      · have h := h.1 c_1
        refine lv_iload_n hx hb dX12_marks_34 rfl (lv_at hl 1 rfl) ?_
        exact rtI (wf := (fun u : St × StL => (wM ad cI cC cZ cJ u.1 u.2))) (g, k) hC hr hlk hw rfl h dX12_marks_35
      · have h := h.2 c_1
        refine lv_iload_n hx hb dX12_marks_11 rfl (lv_at hl 1 rfl) ?_
        refine lv_aload_n hx hb dX12_marks_12 rfl (lv_at hl 0 rfl) ?_
        refine gt (v := .ref (ad 13)) kfX12_110 0 hC hw rfl rfl dX12_marks_13 ?_
        refine lv_iload_n hx hb dX12_marks_16 rfl (lv_at hl 2 rfl) ?_
        refine ldZ 13 2 hC hw rfl rfl h.1 dX12_marks_17 ?_
        have h := h.2
        refine lv_if_eq (tgt := 25) hx hb dX12_marks_18 (by decide) (fun c_2 => ?_) (fun c_2 => ?_)
        · have h := h.1 c_2
          refine lv_iconst (v := (0 : Int32)) hx hb dX12_marks_25 (by decide) ?_
          refine lv_iadd hx hb dX12_marks_26 ?_
          refine lv_topi (fun x_3 ex_3 => ?_)
          have h := h x_3 ex_3
          refine lv_istore_n (lv' := [(1, .int x_3), (0, .ref (ad 0)), (2, .int x2)]) hx hb dX12_marks_27 rfl hl (by decide) rfl (fun ls hl => ?_)
          obtain ⟨x_4, ex_4⟩ : ∃ y : Int32, y = x2 + (1 : Int32) := ⟨_, rfl⟩
          have h := h x_4 ex_4
          refine lv_iinc (v := x_4) (lv' := [(2, .int x_4), (1, .int x_3), (0, .ref (ad 0))]) hx hb dX12_marks_28 hl (k := 2) rfl (by rw [ex_4]; rfl) (by decide) rfl (fun ls hl => ?_)
          refine lv_goto (tgt := 4) hx hb dX12_marks_31 (by decide) ?_
          exact ih x_3 x_4 g k _ _ _ h hw (lv_sub hl [2, 1, 0] rfl)
        · have h := h.2 c_2
          refine lv_iconst (v := (1 : Int32)) hx hb dX12_marks_21 (by decide) ?_
          refine lv_goto (tgt := 26) hx hb dX12_marks_22 (by decide) ?_
          refine lv_iadd hx hb dX12_marks_26 ?_
          refine lv_topi (fun x_5 ex_5 => ?_)
          have h := h x_5 ex_5
          refine lv_istore_n (lv' := [(1, .int x_5), (0, .ref (ad 0)), (2, .int x2)]) hx hb dX12_marks_27 rfl hl (by decide) rfl (fun ls hl => ?_)
          obtain ⟨x_6, ex_6⟩ : ∃ y : Int32, y = x2 + (1 : Int32) := ⟨_, rfl⟩
          have h := h x_6 ex_6
          refine lv_iinc (v := x_6) (lv' := [(2, .int x_6), (1, .int x_5), (0, .ref (ad 0))]) hx hb dX12_marks_28 hl (k := 2) rfl (by rw [ex_6]; rfl) (by decide) rfl (fun ls hl => ?_)
          refine lv_goto (tgt := 4) hx hb dX12_marks_31 (by decide) ?_
          exact ih x_5 x_6 g k _ _ _ h hw (lv_sub hl [2, 1, 0] rfl)
  unfold V_X12_marks at h
  refine lv_iconst (v := (0 : Int32)) hx hb dX12_marks_0 (by decide) ?_
  refine lv_topi (fun x_7 ex_7 => ?_)
  have h := h x_7 ex_7
  refine lv_istore_n (lv' := [(1, .int x_7), (0, .ref (ad 0))]) hx hb dX12_marks_1 rfl hl (by decide) rfl (fun ls hl => ?_)
  refine lv_iconst (v := (0 : Int32)) hx hb dX12_marks_2 (by decide) ?_
  refine lv_topi (fun x_8 ex_8 => ?_)
  have h := h x_8 ex_8
  refine lv_istore_n (lv' := [(2, .int x_8), (1, .int x_7), (0, .ref (ad 0))]) hx hb dX12_marks_3 rfl hl (by decide) rfl (fun ls hl => ?_)
  exact w_4 n x_7 x_8 g k _ _ _ h hw (lv_sub hl [2, 1, 0] rfl)
def V_X12_markWithin_128 (post : St → StL → Prop) (n : Nat) (x1 : Int32) (g : St) (k : StL) : Prop := (vp_in x1 168 ∧ ((¬ (g 8 x1.toNatClampNeg) = (4 : Int32) → post g k) ∧ ((g 8 x1.toNatClampNeg) = (4 : Int32) → (vp_in ((8 : Int32) * x1) 1344 ∧ V_X12_markFrame (g 10 ((8 : Int32) * x1).toNatClampNeg) g k (fun g_2 k_3 => post g_2 k_3)))))
def V_X12_markWithin_75 (post : St → StL → Prop) : Nat → Int32 → Int32 → Int32 → St → StL → Prop
  | 0, _, _, _, _, _ => False
  | n + 1, x1, x3, x4, g, k => ((x3 ≤ x4 → (vp_in x1 168 ∧ ((¬ (g 8 x1.toNatClampNeg) = (3 : Int32) → V_X12_markWithin_128 post n x1 g k) ∧ ((g 8 x1.toNatClampNeg) = (3 : Int32) → (vp_in (((8 : Int32) * x1) + (1 : Int32)) 1344 ∧ V_X12_markFrame (g 10 (((8 : Int32) * x1) + (1 : Int32)).toNatClampNeg) g k (fun g_7 k_8 => V_X12_markWithin_128 post n x1 g_7 k_8)))))) ∧ (¬ x3 ≤ x4 → (vp_in (((8 : Int32) * x1) + x4) 1344 ∧ V_X12_mark (g 10 (((8 : Int32) * x1) + x4).toNatClampNeg) g k (fun g_10 k_11 => ∀ x_13 : Int32, x_13 = x4 + (1 : Int32) → V_X12_markWithin_75 post n x1 x3 x_13 g_10 k_11))))
def V_X12_markWithin_15 (post : St → StL → Prop) (n : Nat) (x1 : Int32) (y0 : Int32) (g : St) (k : StL) : Prop := (vp_in x1 168 ∧ ((¬ (g 8 x1.toNatClampNeg) = (1 : Int32) → (vp_in x1 168 ∧ ((¬ (g 8 x1.toNatClampNeg) = (2 : Int32) → (vp_in x1 168 ∧ ((¬ (g 8 x1.toNatClampNeg) = (4 : Int32) → ∀ x_17 : Int32, x_17 = (0 : Int32) → V_X12_markWithin_75 post n x1 x_17 y0 g k) ∧ ((g 8 x1.toNatClampNeg) = (4 : Int32) → (vp_in x1 168 ∧ ∀ x_18 : Int32, x_18 = (g 9 x1.toNatClampNeg) → V_X12_markWithin_75 post n x1 x_18 y0 g k))))) ∧ ((g 8 x1.toNatClampNeg) = (2 : Int32) → (vp_in x1 168 ∧ ∀ x_19 : Int32, x_19 = ((g 9 x1.toNatClampNeg) - (1 : Int32)) → V_X12_markWithin_75 post n x1 x_19 y0 g k))))) ∧ ((g 8 x1.toNatClampNeg) = (1 : Int32) → ∀ x_20 : Int32, x_20 = (2 : Int32) → V_X12_markWithin_75 post n x1 x_20 y0 g k)))
def V_X12_markWithin (n : Nat) (x1 : Int32) (g : St) (k : StL) (post : St → StL → Prop) : Prop := (vp_in x1 168 ∧ ((¬ (g 8 x1.toNatClampNeg) = (4 : Int32) → V_X12_markWithin_15 post n x1 (0 : Int32) g k) ∧ ((g 8 x1.toNatClampNeg) = (4 : Int32) → V_X12_markWithin_15 post n x1 (2 : Int32) g k)))
abbrev RM_X12_markWithin : Room := { frames := 2, cells := 0, slots := 0, locals := 42 }
set_option maxHeartbeats 4000000 in
set_option maxRecDepth 100000 in
theorem m_X12_markWithin (l : Launch) (D : va_G) (cI cC cZ cJ : ClassId) (ad : Nat → Nat) (n : Nat) (x1 : Int32) (g : St) (k : StL) {post : St → StL → Prop} (h : V_X12_markWithin n x1 g k post) : MetV l yX12_markWithin cX12_markWithin 5 RM_X12_markWithin D (ty4 cI cC cZ cJ) (wM ad cI cC cZ cJ g k) [.ref (ad 0), .int x1] (fun u : St × StL => (wM ad cI cC cZ cJ u.1 u.2)) (fun u : St × StL => post u.1 u.2) := by
  refine mkV (by decide) (Nat.le_of_ble_eq_true rfl) ?_
  intro p e s m args below meth c A ls hC hr hlk hw hl
  have hx := hC.1
  have hb := hC.2.1
  have hl : lv_has ls 5 [(0, .ref (ad 0)), (1, .int x1)] := hl
  have w_128 : ∀ (n : Nat) (x1 : Int32) (g : St) (k : StL) (H : Heap) (locs : List Loc) (ls : Array Slot), V_X12_markWithin_128 post n x1 g k → Wd D (ty4 cI cC cZ cJ) A s (wM ad cI cC cZ cJ g k) H locs → lv_has ls 5 [(0, .ref (ad 0)), (1, .int x1)] → W p l e RM_X12_markWithin s m args below meth c H locs 0 0 (QV below D (ty4 cI cC cZ cJ) A args s (fun u : St × StL => (wM ad cI cC cZ cJ u.1 u.2)) (fun u : St × StL => post u.1 u.2)) (F0 m 128 ls []) := by
    intro n x1 g k H locs ls h hw hl
    unfold V_X12_markWithin_128 at h
    refine lv_aload_n hx hb dX12_markWithin_128 rfl (lv_at hl 0 rfl) ?_
    refine gt (v := .ref (ad 10)) kfX12_101 0 hC hw rfl rfl dX12_markWithin_129 ?_
    refine lv_iload_n hx hb dX12_markWithin_132 rfl (lv_at hl 1 rfl) ?_
    refine ldI 10 0 hC hw rfl rfl h.1 dX12_markWithin_133 ?_
    have h := h.2
    refine lv_iconst (v := (4 : Int32)) hx hb dX12_markWithin_134 (by decide) ?_
    refine lv_icmp_ne (tgt := 151) hx hb dX12_markWithin_135 (by decide) (fun c_1 => ?_) (fun c_1 => ?_)
    · have h := h.1 c_1
      exact rtV (wf := (fun u : St × StL => (wM ad cI cC cZ cJ u.1 u.2))) (g, k) hC hr hlk hw h dX12_markWithin_151
    · have h := h.2 c_1
      refine lv_aload_n hx hb dX12_markWithin_138 rfl (lv_at hl 0 rfl) ?_
      refine lv_aload_n hx hb dX12_markWithin_139 rfl (lv_at hl 0 rfl) ?_
      refine gt (v := .ref (ad 12)) kfX12_107 0 hC hw rfl rfl dX12_markWithin_140 ?_
      refine lv_bipush (v := (8 : Int32)) hx hb dX12_markWithin_143 (by decide) ?_
      refine lv_iload_n hx hb dX12_markWithin_145 rfl (lv_at hl 1 rfl) ?_
      refine lv_imul hx hb dX12_markWithin_146 ?_
      refine ldI 12 0 hC hw rfl rfl h.1 dX12_markWithin_147 ?_
      have h := h.2
      refine cVVw (q0 := 0) kmX12_272 hC hw (m_X12_markFrame l D cI cC cZ cJ ad (g 10 ((8 : Int32) * x1).toNatClampNeg) g k h) rfl rfl ⟨by decide, by decide⟩ rfl rfl rfl hl.1 (Nat.le_of_ble_eq_true rfl) dX12_markWithin_148 ⟨Nat.zero_le _, Nat.zero_le _⟩ rfl ?_
      intro u H locs h hw
      obtain ⟨g_2, k_3⟩ := u
      dsimp only at h hw
      exact rtV (wf := (fun u : St × StL => (wM ad cI cC cZ cJ u.1 u.2))) (g_2, k_3) hC hr hlk hw h dX12_markWithin_151
  have w_75 : ∀ (n : Nat) (x1 : Int32) (x3 : Int32) (x4 : Int32) (g : St) (k : StL) (H : Heap) (locs : List Loc) (ls : Array Slot), V_X12_markWithin_75 post n x1 x3 x4 g k → Wd D (ty4 cI cC cZ cJ) A s (wM ad cI cC cZ cJ g k) H locs → lv_has ls 5 [(0, .ref (ad 0)), (1, .int x1), (3, .int x3), (4, .int x4)] → W p l e RM_X12_markWithin s m args below meth c H locs 0 0 (QV below D (ty4 cI cC cZ cJ) A args s (fun u : St × StL => (wM ad cI cC cZ cJ u.1 u.2)) (fun u : St × StL => post u.1 u.2)) (F0 m 75 ls []) := by
    intro n
    induction n with
    | zero =>
      intro x1 x3 x4 g k H locs ls h
      exact False.elim h
    | succ n ih =>
      intro x1 x3 x4 g k H locs ls h hw hl
      rw [V_X12_markWithin_75] at h
      refine lv_iload hx hb dX12_markWithin_75 (lv_at hl 3 rfl) ?_
      refine lv_iload_n hx hb dX12_markWithin_77 rfl (lv_at hl 2 rfl) ?_
      refine lv_icmp_ge (tgt := 103) hx hb dX12_markWithin_78 (by decide) (fun c_5 => ?_) (fun c_5 => ?_)
      · have h := h.1 c_5
        refine lv_aload_n hx hb dX12_markWithin_103 rfl (lv_at hl 0 rfl) ?_
        refine gt (v := .ref (ad 10)) kfX12_101 0 hC hw rfl rfl dX12_markWithin_104 ?_
        refine lv_iload_n hx hb dX12_markWithin_107 rfl (lv_at hl 1 rfl) ?_
        refine ldI 10 0 hC hw rfl rfl h.1 dX12_markWithin_108 ?_
        have h := h.2
        refine lv_iconst (v := (3 : Int32)) hx hb dX12_markWithin_109 (by decide) ?_
        refine lv_icmp_ne (tgt := 128) hx hb dX12_markWithin_110 (by decide) (fun c_6 => ?_) (fun c_6 => ?_)
        · have h := h.1 c_6
          exact w_128 n x1 g k _ _ _ h hw (lv_sub hl [0, 1] rfl)
        · have h := h.2 c_6
          refine lv_aload_n hx hb dX12_markWithin_113 rfl (lv_at hl 0 rfl) ?_
          refine lv_aload_n hx hb dX12_markWithin_114 rfl (lv_at hl 0 rfl) ?_
          refine gt (v := .ref (ad 12)) kfX12_107 0 hC hw rfl rfl dX12_markWithin_115 ?_
          refine lv_bipush (v := (8 : Int32)) hx hb dX12_markWithin_118 (by decide) ?_
          refine lv_iload_n hx hb dX12_markWithin_120 rfl (lv_at hl 1 rfl) ?_
          refine lv_imul hx hb dX12_markWithin_121 ?_
          refine lv_iconst (v := (1 : Int32)) hx hb dX12_markWithin_122 (by decide) ?_
          refine lv_iadd hx hb dX12_markWithin_123 ?_
          refine ldI 12 0 hC hw rfl rfl h.1 dX12_markWithin_124 ?_
          have h := h.2
          refine cVVw (q0 := 0) kmX12_272 hC hw (m_X12_markFrame l D cI cC cZ cJ ad (g 10 (((8 : Int32) * x1) + (1 : Int32)).toNatClampNeg) g k h) rfl rfl ⟨by decide, by decide⟩ rfl rfl rfl hl.1 (Nat.le_of_ble_eq_true rfl) dX12_markWithin_125 ⟨Nat.zero_le _, Nat.zero_le _⟩ rfl ?_
          intro u H locs h hw
          obtain ⟨g_7, k_8⟩ := u
          dsimp only at h hw
          exact w_128 n x1 g_7 k_8 _ _ _ h hw (lv_sub hl [0, 1] rfl)
      · have h := h.2 c_5
        refine lv_aload_n hx hb dX12_markWithin_81 rfl (lv_at hl 0 rfl) ?_
        refine lv_aload_n hx hb dX12_markWithin_82 rfl (lv_at hl 0 rfl) ?_
        refine gt (v := .ref (ad 12)) kfX12_107 0 hC hw rfl rfl dX12_markWithin_83 ?_
        refine lv_bipush (v := (8 : Int32)) hx hb dX12_markWithin_86 (by decide) ?_
        refine lv_iload_n hx hb dX12_markWithin_88 rfl (lv_at hl 1 rfl) ?_
        refine lv_imul hx hb dX12_markWithin_89 ?_
        refine lv_iload hx hb dX12_markWithin_90 (lv_at hl 3 rfl) ?_
        refine lv_iadd hx hb dX12_markWithin_92 ?_
        refine ldI 12 0 hC hw rfl rfl h.1 dX12_markWithin_93 ?_
        have h := h.2
        refine cVVw (q0 := 0) kmX12_269 hC hw (m_X12_mark l D cI cC cZ cJ ad (g 10 (((8 : Int32) * x1) + x4).toNatClampNeg) g k h) rfl rfl ⟨by decide, by decide⟩ rfl rfl rfl hl.1 (Nat.le_of_ble_eq_true rfl) dX12_markWithin_94 ⟨Nat.zero_le _, Nat.zero_le _⟩ rfl ?_
        intro u H locs h hw
        obtain ⟨g_10, k_11⟩ := u
        dsimp only at h hw
        obtain ⟨x_13, ex_13⟩ : ∃ y : Int32, y = x4 + (1 : Int32) := ⟨_, rfl⟩
        have h := h x_13 ex_13
        refine lv_iinc (v := x_13) (lv' := [(4, .int x_13), (0, .ref (ad 0)), (1, .int x1), (3, .int x3)]) hx hb dX12_markWithin_97 hl (k := 3) rfl (by rw [ex_13]; rfl) (by decide) rfl (fun ls hl => ?_)
        refine lv_goto (tgt := 75) hx hb dX12_markWithin_100 (by decide) ?_
        exact ih x1 x3 x_13 g_10 k_11 _ _ _ h hw (lv_sub hl [1, 2, 3, 0] rfl)
  have w_15 : ∀ (n : Nat) (x1 : Int32) (y0 : Int32) (g : St) (k : StL) (H : Heap) (locs : List Loc) (ls : Array Slot), V_X12_markWithin_15 post n x1 y0 g k → Wd D (ty4 cI cC cZ cJ) A s (wM ad cI cC cZ cJ g k) H locs → lv_has ls 5 [(0, .ref (ad 0)), (1, .int x1)] → W p l e RM_X12_markWithin s m args below meth c H locs 0 0 (QV below D (ty4 cI cC cZ cJ) A args s (fun u : St × StL => (wM ad cI cC cZ cJ u.1 u.2)) (fun u : St × StL => post u.1 u.2)) (F0 m 15 ls [.int y0]) := by
    intro n x1 y0 g k H locs ls h hw hl
    unfold V_X12_markWithin_15 at h
    refine lv_istore_n (lv' := [(2, .int y0), (0, .ref (ad 0)), (1, .int x1)]) hx hb dX12_markWithin_15 rfl hl (by decide) rfl (fun ls hl => ?_)
    refine lv_aload_n hx hb dX12_markWithin_16 rfl (lv_at hl 1 rfl) ?_
    refine gt (v := .ref (ad 10)) kfX12_101 0 hC hw rfl rfl dX12_markWithin_17 ?_
    refine lv_iload_n hx hb dX12_markWithin_20 rfl (lv_at hl 2 rfl) ?_
    refine ldI 10 0 hC hw rfl rfl h.1 dX12_markWithin_21 ?_
    have h := h.2
    refine lv_iconst (v := (1 : Int32)) hx hb dX12_markWithin_22 (by decide) ?_
    refine lv_icmp_ne (tgt := 30) hx hb dX12_markWithin_23 (by decide) (fun c_14 => ?_) (fun c_14 => ?_)
    · have h := h.1 c_14
      refine lv_aload_n hx hb dX12_markWithin_30 rfl (lv_at hl 1 rfl) ?_
      refine gt (v := .ref (ad 10)) kfX12_101 0 hC hw rfl rfl dX12_markWithin_31 ?_
      refine lv_iload_n hx hb dX12_markWithin_34 rfl (lv_at hl 2 rfl) ?_
      refine ldI 10 0 hC hw rfl rfl h.1 dX12_markWithin_35 ?_
      have h := h.2
      refine lv_iconst (v := (2 : Int32)) hx hb dX12_markWithin_36 (by decide) ?_
      refine lv_icmp_ne (tgt := 51) hx hb dX12_markWithin_37 (by decide) (fun c_15 => ?_) (fun c_15 => ?_)
      · have h := h.1 c_15
        refine lv_aload_n hx hb dX12_markWithin_51 rfl (lv_at hl 1 rfl) ?_
        refine gt (v := .ref (ad 10)) kfX12_101 0 hC hw rfl rfl dX12_markWithin_52 ?_
        refine lv_iload_n hx hb dX12_markWithin_55 rfl (lv_at hl 2 rfl) ?_
        refine ldI 10 0 hC hw rfl rfl h.1 dX12_markWithin_56 ?_
        have h := h.2
        refine lv_iconst (v := (4 : Int32)) hx hb dX12_markWithin_57 (by decide) ?_
        refine lv_icmp_ne (tgt := 70) hx hb dX12_markWithin_58 (by decide) (fun c_16 => ?_) (fun c_16 => ?_)
        · have h := h.1 c_16
          refine lv_iconst (v := (0 : Int32)) hx hb dX12_markWithin_70 (by decide) ?_
          refine lv_topi (fun x_17 ex_17 => ?_)
          have h := h x_17 ex_17
          refine lv_istore_n (lv' := [(3, .int x_17), (2, .int y0), (0, .ref (ad 0)), (1, .int x1)]) hx hb dX12_markWithin_71 rfl hl (by decide) rfl (fun ls hl => ?_)
          refine lv_iload_n hx hb dX12_markWithin_72 rfl (lv_at hl 1 rfl) ?_
          refine lv_istore (lv' := [(4, .int y0), (3, .int x_17), (2, .int y0), (0, .ref (ad 0)), (1, .int x1)]) hx hb dX12_markWithin_73 hl (by decide) rfl (fun ls hl => ?_)
          exact w_75 n x1 x_17 y0 g k _ _ _ h hw (lv_sub hl [3, 4, 1, 0] rfl)
        · have h := h.2 c_16
          refine lv_aload_n hx hb dX12_markWithin_61 rfl (lv_at hl 1 rfl) ?_
          refine gt (v := .ref (ad 11)) kfX12_104 0 hC hw rfl rfl dX12_markWithin_62 ?_
          refine lv_iload_n hx hb dX12_markWithin_65 rfl (lv_at hl 2 rfl) ?_
          refine ldI 11 0 hC hw rfl rfl h.1 dX12_markWithin_66 ?_
          have h := h.2
          refine lv_goto (tgt := 71) hx hb dX12_markWithin_67 (by decide) ?_
          refine lv_topi (fun x_18 ex_18 => ?_)
          have h := h x_18 ex_18
          refine lv_istore_n (lv' := [(3, .int x_18), (2, .int y0), (0, .ref (ad 0)), (1, .int x1)]) hx hb dX12_markWithin_71 rfl hl (by decide) rfl (fun ls hl => ?_)
          refine lv_iload_n hx hb dX12_markWithin_72 rfl (lv_at hl 1 rfl) ?_
          refine lv_istore (lv' := [(4, .int y0), (3, .int x_18), (2, .int y0), (0, .ref (ad 0)), (1, .int x1)]) hx hb dX12_markWithin_73 hl (by decide) rfl (fun ls hl => ?_)
          exact w_75 n x1 x_18 y0 g k _ _ _ h hw (lv_sub hl [3, 4, 1, 0] rfl)
      · have h := h.2 c_15
        refine lv_aload_n hx hb dX12_markWithin_40 rfl (lv_at hl 1 rfl) ?_
        refine gt (v := .ref (ad 11)) kfX12_104 0 hC hw rfl rfl dX12_markWithin_41 ?_
        refine lv_iload_n hx hb dX12_markWithin_44 rfl (lv_at hl 2 rfl) ?_
        refine ldI 11 0 hC hw rfl rfl h.1 dX12_markWithin_45 ?_
        have h := h.2
        refine lv_iconst (v := (1 : Int32)) hx hb dX12_markWithin_46 (by decide) ?_
        refine lv_isub hx hb dX12_markWithin_47 ?_
        refine lv_goto (tgt := 71) hx hb dX12_markWithin_48 (by decide) ?_
        refine lv_topi (fun x_19 ex_19 => ?_)
        have h := h x_19 ex_19
        refine lv_istore_n (lv' := [(3, .int x_19), (2, .int y0), (0, .ref (ad 0)), (1, .int x1)]) hx hb dX12_markWithin_71 rfl hl (by decide) rfl (fun ls hl => ?_)
        refine lv_iload_n hx hb dX12_markWithin_72 rfl (lv_at hl 1 rfl) ?_
        refine lv_istore (lv' := [(4, .int y0), (3, .int x_19), (2, .int y0), (0, .ref (ad 0)), (1, .int x1)]) hx hb dX12_markWithin_73 hl (by decide) rfl (fun ls hl => ?_)
        exact w_75 n x1 x_19 y0 g k _ _ _ h hw (lv_sub hl [3, 4, 1, 0] rfl)
    · have h := h.2 c_14
      refine lv_iconst (v := (2 : Int32)) hx hb dX12_markWithin_26 (by decide) ?_
      refine lv_goto (tgt := 71) hx hb dX12_markWithin_27 (by decide) ?_
      refine lv_topi (fun x_20 ex_20 => ?_)
      have h := h x_20 ex_20
      refine lv_istore_n (lv' := [(3, .int x_20), (2, .int y0), (0, .ref (ad 0)), (1, .int x1)]) hx hb dX12_markWithin_71 rfl hl (by decide) rfl (fun ls hl => ?_)
      refine lv_iload_n hx hb dX12_markWithin_72 rfl (lv_at hl 1 rfl) ?_
      refine lv_istore (lv' := [(4, .int y0), (3, .int x_20), (2, .int y0), (0, .ref (ad 0)), (1, .int x1)]) hx hb dX12_markWithin_73 hl (by decide) rfl (fun ls hl => ?_)
      exact w_75 n x1 x_20 y0 g k _ _ _ h hw (lv_sub hl [3, 4, 1, 0] rfl)
  unfold V_X12_markWithin at h
  refine lv_aload_n hx hb dX12_markWithin_0 rfl (lv_at hl 0 rfl) ?_
  refine gt (v := .ref (ad 10)) kfX12_101 0 hC hw rfl rfl dX12_markWithin_1 ?_
  refine lv_iload_n hx hb dX12_markWithin_4 rfl (lv_at hl 1 rfl) ?_
  refine ldI 10 0 hC hw rfl rfl h.1 dX12_markWithin_5 ?_
  have h := h.2
  refine lv_iconst (v := (4 : Int32)) hx hb dX12_markWithin_6 (by decide) ?_
  refine lv_icmp_ne (tgt := 14) hx hb dX12_markWithin_7 (by decide) (fun c_21 => ?_) (fun c_21 => ?_)
  · have h := h.1 c_21
    refine lv_iconst (v := (0 : Int32)) hx hb dX12_markWithin_14 (by decide) ?_
    exact w_15 n x1 (0 : Int32) g k _ _ _ h hw (lv_sub hl [0, 1] rfl)
  · have h := h.2 c_21
    refine lv_iconst (v := (2 : Int32)) hx hb dX12_markWithin_10 (by decide) ?_
    refine lv_goto (tgt := 15) hx hb dX12_markWithin_11 (by decide) ?_
    exact w_15 n x1 (2 : Int32) g k _ _ _ h hw (lv_sub hl [0, 1] rfl)
def V_X12_gather_210 (post : St → StL → Prop) : Nat → Int32 → St → StL → Prop
  | 0, _, _, _ => False
  | n + 1, x2, g, k => (((168 : Int32) ≤ x2 → ∀ g_2 : St, g_2 = us g 5 ((g 0 5) + (1 : Int32)) → ∀ g_3 : St, g_3 = us g_2 6 (g_2 0 4) → post g_3 k) ∧ (¬ (168 : Int32) ≤ x2 → (vp_in x2 168 ∧ ((¬ (g 11 x2.toNatClampNeg) = 0 → (vp_in x2 168 ∧ ∀ g_5 : St, g_5 = us g 4 ((g 0 4) + (g 9 x2.toNatClampNeg)) → ∀ x_6 : Int32, x_6 = x2 + (1 : Int32) → V_X12_gather_210 post n x_6 g_5 k)) ∧ ((g 11 x2.toNatClampNeg) = 0 → (vp_in x2 168 ∧ ∀ g_7 : St, g_7 = up g 8 x2.toNatClampNeg (0 : Int32) → ∀ x_8 : Int32, x_8 = x2 + (1 : Int32) → V_X12_gather_210 post n x_8 g_7 k))))))
def V_X12_gather_173 (K158 : Int32 → St → StL → Prop) (post : St → StL → Prop) : Nat → Int32 → Int32 → St → StL → Prop
  | 0, _, _, _, _ => False
  | n + 1, x1, x2, g, k => (((168 : Int32) ≤ x2 → K158 x1 g k) ∧ (¬ (168 : Int32) ≤ x2 → (vp_in x2 168 ∧ (((g 11 x2.toNatClampNeg) = 0 → ∀ x_11 : Int32, x_11 = x2 + (1 : Int32) → V_X12_gather_173 K158 post n x1 x_11 g k) ∧ (¬ (g 11 x2.toNatClampNeg) = 0 → V_X12_markWithin n x2 g k (fun g_12 k_13 => ∀ x_15 : Int32, x_15 = x2 + (1 : Int32) → V_X12_gather_173 K158 post n x1 x_15 g_12 k_13))))))
def V_X12_gather_158 (post : St → StL → Prop) : Nat → Int32 → St → StL → Prop
  | 0, _, _, _ => False
  | n + 1, x1, g, k => V_X12_marks n  g k (fun r_18 g_16 k_17 => ((x1 = r_18 → ∀ g_20 : St, g_20 = us g_16 4 (0 : Int32) → ∀ x_21 : Int32, x_21 = (0 : Int32) → V_X12_gather_210 post n x_21 g_20 k_17) ∧ (¬ x1 = r_18 → V_X12_marks n  g_16 k_17 (fun r_24 g_22 k_23 => ∀ x_25 : Int32, x_25 = (0 : Int32) → V_X12_gather_173 (fun x1 g k => V_X12_gather_158 post n x1 g k) post n r_24 x_25 g_22 k_23))))
def V_X12_gather_121 (post : St → StL → Prop) : Nat → Int32 → St → StL → Prop
  | 0, _, _, _ => False
  | n + 1, x1, g, k => (((g 0 12) ≤ x1 → ∀ x_27 : Int32, x_27 = (-1 : Int32) → V_X12_gather_158 post n x_27 g k) ∧ (¬ (g 0 12) ≤ x1 → (vp_in x1 1002 ∧ ((¬ (g 15 x1.toNatClampNeg) = (32 : Int32) → ∀ x_29 : Int32, x_29 = x1 + (1 : Int32) → V_X12_gather_121 post n x_29 g k) ∧ ((g 15 x1.toNatClampNeg) = (32 : Int32) → (vp_in x1 1002 ∧ V_X12_markFrame (g 19 x1.toNatClampNeg) g k (fun g_30 k_31 => ∀ x_33 : Int32, x_33 = x1 + (1 : Int32) → V_X12_gather_121 post n x_33 g_30 k_31)))))))
def V_X12_gather_95 (post : St → StL → Prop) : Nat → Int32 → St → StL → Prop
  | 0, _, _, _ => False
  | n + 1, x1, g, k => (((g 0 13) ≤ x1 → ∀ x_35 : Int32, x_35 = (0 : Int32) → V_X12_gather_121 post n x_35 g k) ∧ (¬ (g 0 13) ≤ x1 → (vp_in x1 1100 ∧ V_X12_mark (g 21 x1.toNatClampNeg) g k (fun g_36 k_37 => ∀ x_39 : Int32, x_39 = x1 + (1 : Int32) → V_X12_gather_95 post n x_39 g_36 k_37))))
def V_X12_gather_59 (post : St → StL → Prop) : Nat → Int32 → St → StL → Prop
  | 0, _, _, _ => False
  | n + 1, x1, g, k => (((g 0 3) ≤ x1 → ∀ x_41 : Int32, x_41 = (0 : Int32) → V_X12_gather_95 post n x_41 g k) ∧ (¬ (g 0 3) ≤ x1 → (vp_in x1 1100 ∧ V_X12_mark (g 6 x1.toNatClampNeg) g k (fun g_42 k_43 => (vp_in x1 1100 ∧ V_X12_mark (g_42 7 x1.toNatClampNeg) g_42 k_43 (fun g_45 k_46 => ∀ x_48 : Int32, x_48 = x1 + (1 : Int32) → V_X12_gather_59 post n x_48 g_45 k_46))))))
def V_X12_gather_24 (post : St → StL → Prop) : Nat → Int32 → St → StL → Prop
  | 0, _, _, _ => False
  | n + 1, x1, g, k => (((g 0 2) ≤ x1 → ∀ x_50 : Int32, x_50 = (0 : Int32) → V_X12_gather_59 post n x_50 g k) ∧ (¬ (g 0 2) ≤ x1 → (vp_in x1 40 ∧ (((g 2 x1.toNatClampNeg) = 0 → ∀ x_52 : Int32, x_52 = x1 + (1 : Int32) → V_X12_gather_24 post n x_52 g k) ∧ (¬ (g 2 x1.toNatClampNeg) = 0 → (vp_in x1 40 ∧ V_X12_mark (g 3 x1.toNatClampNeg) g k (fun g_53 k_54 => ∀ x_56 : Int32, x_56 = x1 + (1 : Int32) → V_X12_gather_24 post n x_56 g_53 k_54)))))))
def V_X12_gather_2 (post : St → StL → Prop) : Nat → Int32 → St → StL → Prop
  | 0, _, _, _ => False
  | n + 1, x1, g, k => (((168 : Int32) ≤ x1 → ∀ x_58 : Int32, x_58 = (0 : Int32) → V_X12_gather_24 post n x_58 g k) ∧ (¬ (168 : Int32) ≤ x1 → (vp_in x1 168 ∧ ∀ g_59 : St, g_59 = up g 11 x1.toNatClampNeg (vp_nar .boolean (0 : Int32)) → ∀ x_60 : Int32, x_60 = x1 + (1 : Int32) → V_X12_gather_2 post n x_60 g_59 k)))
def V_X12_gather (n : Nat) (g : St) (k : StL) (post : St → StL → Prop) : Prop := ∀ x_61 : Int32, x_61 = (0 : Int32) → V_X12_gather_2 post n x_61 g k
abbrev RM_X12_gather : Room := { frames := 3, cells := 0, slots := 0, locals := 66 }
set_option maxHeartbeats 4000000 in
set_option maxRecDepth 100000 in
theorem m_X12_gather (l : Launch) (D : va_G) (cI cC cZ cJ : ClassId) (ad : Nat → Nat) (n : Nat) (g : St) (k : StL) {post : St → StL → Prop} (h : V_X12_gather n g k post) : MetV l yX12_gather cX12_gather 3 RM_X12_gather D (ty4 cI cC cZ cJ) (wM ad cI cC cZ cJ g k) [.ref (ad 0)] (fun u : St × StL => (wM ad cI cC cZ cJ u.1 u.2)) (fun u : St × StL => post u.1 u.2) := by
  refine mkV (by decide) (Nat.le_of_ble_eq_true rfl) ?_
  intro p e s m args below meth c A ls hC hr hlk hw hl
  have hx := hC.1
  have hb := hC.2.1
  have hl : lv_has ls 3 [(0, .ref (ad 0))] := hl
  have w_210 : ∀ (n : Nat) (x2 : Int32) (g : St) (k : StL) (H : Heap) (locs : List Loc) (ls : Array Slot), V_X12_gather_210 post n x2 g k → Wd D (ty4 cI cC cZ cJ) A s (wM ad cI cC cZ cJ g k) H locs → lv_has ls 3 [(0, .ref (ad 0)), (2, .int x2)] → W p l e RM_X12_gather s m args below meth c H locs 0 0 (QV below D (ty4 cI cC cZ cJ) A args s (fun u : St × StL => (wM ad cI cC cZ cJ u.1 u.2)) (fun u : St × StL => post u.1 u.2)) (F0 m 210 ls []) := by
    intro n
    induction n with
    | zero =>
      intro x2 g k H locs ls h
      exact False.elim h
    | succ n ih =>
      intro x2 g k H locs ls h hw hl
      rw [V_X12_gather_210] at h
      refine lv_iload_n hx hb dX12_gather_210 rfl (lv_at hl 1 rfl) ?_
      refine lv_sipush (v := (168 : Int32)) hx hb dX12_gather_211 (by decide) ?_
      refine lv_icmp_ge (tgt := 257) hx hb dX12_gather_214 (by decide) (fun c_1 => ?_) (fun c_1 => ?_)
      · have h := h.1 c_1
        refine lv_aload_n hx hb dX12_gather_257 rfl (lv_at hl 0 rfl) ?_
        refine lv_dup hx hb dX12_gather_258 rfl ?_
        refine gt (v := .int (g 0 5)) kfX12_290 0 hC hw rfl rfl dX12_gather_259 ?_
        refine lv_iconst (v := (1 : Int32)) hx hb dX12_gather_262 (by decide) ?_
        refine lv_iadd hx hb dX12_gather_263 ?_
        refine pwM_18 kpX12_290 hC hw dX12_gather_264 (fun H locs g_2 eg_2 hw => ?_)
        have h := h g_2 eg_2
        refine lv_aload_n hx hb dX12_gather_267 rfl (lv_at hl 0 rfl) ?_
        refine lv_aload_n hx hb dX12_gather_268 rfl (lv_at hl 0 rfl) ?_
        refine gt (v := .int (g_2 0 4)) kfX12_287 0 hC hw rfl rfl dX12_gather_269 ?_
        refine pwM_19 kpX12_293 hC hw dX12_gather_272 (fun H locs g_3 eg_3 hw => ?_)
        have h := h g_3 eg_3
        exact rtV (wf := (fun u : St × StL => (wM ad cI cC cZ cJ u.1 u.2))) (g_3, k) hC hr hlk hw h dX12_gather_275
      · have h := h.2 c_1
        refine lv_aload_n hx hb dX12_gather_217 rfl (lv_at hl 0 rfl) ?_
        refine gt (v := .ref (ad 13)) kfX12_110 0 hC hw rfl rfl dX12_gather_218 ?_
        refine lv_iload_n hx hb dX12_gather_221 rfl (lv_at hl 1 rfl) ?_
        refine ldZ 13 2 hC hw rfl rfl h.1 dX12_gather_222 ?_
        have h := h.2
        refine lv_if_ne (tgt := 236) hx hb dX12_gather_223 (by decide) (fun c_4 => ?_) (fun c_4 => ?_)
        · have h := h.1 c_4
          refine lv_aload_n hx hb dX12_gather_236 rfl (lv_at hl 0 rfl) ?_
          refine lv_dup hx hb dX12_gather_237 rfl ?_
          refine gt (v := .int (g 0 4)) kfX12_287 0 hC hw rfl rfl dX12_gather_238 ?_
          refine lv_aload_n hx hb dX12_gather_241 rfl (lv_at hl 0 rfl) ?_
          refine gt (v := .ref (ad 11)) kfX12_104 0 hC hw rfl rfl dX12_gather_242 ?_
          refine lv_iload_n hx hb dX12_gather_245 rfl (lv_at hl 1 rfl) ?_
          refine ldI 11 0 hC hw rfl rfl h.1 dX12_gather_246 ?_
          have h := h.2
          refine lv_iadd hx hb dX12_gather_247 ?_
          refine pwM_17 kpX12_287 hC hw dX12_gather_248 (fun H locs g_5 eg_5 hw => ?_)
          have h := h g_5 eg_5
          obtain ⟨x_6, ex_6⟩ : ∃ y : Int32, y = x2 + (1 : Int32) := ⟨_, rfl⟩
          have h := h x_6 ex_6
          refine lv_iinc (v := x_6) (lv' := [(2, .int x_6), (0, .ref (ad 0))]) hx hb dX12_gather_251 hl (k := 1) rfl (by rw [ex_6]; rfl) (by decide) rfl (fun ls hl => ?_)
          refine lv_goto (tgt := 210) hx hb dX12_gather_254 (by decide) ?_
          exact ih x_6 g_5 k _ _ _ h hw (lv_sub hl [1, 0] rfl)
        · have h := h.2 c_4
          refine lv_aload_n hx hb dX12_gather_226 rfl (lv_at hl 0 rfl) ?_
          refine gt (v := .ref (ad 10)) kfX12_101 0 hC hw rfl rfl dX12_gather_227 ?_
          refine lv_iload_n hx hb dX12_gather_230 rfl (lv_at hl 1 rfl) ?_
          refine lv_iconst (v := (0 : Int32)) hx hb dX12_gather_231 (by decide) ?_
          refine swM_10 h.1 hC hw dX12_gather_232 (fun H locs g_7 eg_7 hw => ?_)
          have h := h.2 g_7 eg_7
          refine lv_goto (tgt := 251) hx hb dX12_gather_233 (by decide) ?_
          obtain ⟨x_8, ex_8⟩ : ∃ y : Int32, y = x2 + (1 : Int32) := ⟨_, rfl⟩
          have h := h x_8 ex_8
          refine lv_iinc (v := x_8) (lv' := [(2, .int x_8), (0, .ref (ad 0))]) hx hb dX12_gather_251 hl (k := 1) rfl (by rw [ex_8]; rfl) (by decide) rfl (fun ls hl => ?_)
          refine lv_goto (tgt := 210) hx hb dX12_gather_254 (by decide) ?_
          exact ih x_8 g_7 k _ _ _ h hw (lv_sub hl [1, 0] rfl)
  have w_173 : ∀ (K158 : Int32 → St → StL → Prop) (hK158 : ∀ (x1 : Int32) (g : St) (k : StL) (H : Heap) (locs : List Loc) (ls : Array Slot), K158 x1 g k → Wd D (ty4 cI cC cZ cJ) A s (wM ad cI cC cZ cJ g k) H locs → lv_has ls 3 [(0, .ref (ad 0)), (1, .int x1)] → W p l e RM_X12_gather s m args below meth c H locs 0 0 (QV below D (ty4 cI cC cZ cJ) A args s (fun u : St × StL => (wM ad cI cC cZ cJ u.1 u.2)) (fun u : St × StL => post u.1 u.2)) (F0 m 158 ls [])) (n : Nat) (x1 : Int32) (x2 : Int32) (g : St) (k : StL) (H : Heap) (locs : List Loc) (ls : Array Slot), V_X12_gather_173 K158 post n x1 x2 g k → Wd D (ty4 cI cC cZ cJ) A s (wM ad cI cC cZ cJ g k) H locs → lv_has ls 3 [(0, .ref (ad 0)), (1, .int x1), (2, .int x2)] → W p l e RM_X12_gather s m args below meth c H locs 0 0 (QV below D (ty4 cI cC cZ cJ) A args s (fun u : St × StL => (wM ad cI cC cZ cJ u.1 u.2)) (fun u : St × StL => post u.1 u.2)) (F0 m 173 ls []) := by
    intro K158 hK158 n
    induction n with
    | zero =>
      intro x1 x2 g k H locs ls h
      exact False.elim h
    | succ n ih =>
      intro x1 x2 g k H locs ls h hw hl
      rw [V_X12_gather_173] at h
      refine lv_iload_n hx hb dX12_gather_173 rfl (lv_at hl 2 rfl) ?_
      refine lv_sipush (v := (168 : Int32)) hx hb dX12_gather_174 (by decide) ?_
      refine lv_icmp_ge (tgt := 200) hx hb dX12_gather_177 (by decide) (fun c_9 => ?_) (fun c_9 => ?_)
      · have h := h.1 c_9
        refine lv_goto (tgt := 158) hx hb dX12_gather_200 (by decide) ?_
        exact hK158 x1 g k _ _ _ h hw (lv_sub hl [0, 1] rfl)
      · have h := h.2 c_9
        refine lv_aload_n hx hb dX12_gather_180 rfl (lv_at hl 0 rfl) ?_
        refine gt (v := .ref (ad 13)) kfX12_110 0 hC hw rfl rfl dX12_gather_181 ?_
        refine lv_iload_n hx hb dX12_gather_184 rfl (lv_at hl 2 rfl) ?_
        refine ldZ 13 2 hC hw rfl rfl h.1 dX12_gather_185 ?_
        have h := h.2
        refine lv_if_eq (tgt := 194) hx hb dX12_gather_186 (by decide) (fun c_10 => ?_) (fun c_10 => ?_)
        · have h := h.1 c_10
          obtain ⟨x_11, ex_11⟩ : ∃ y : Int32, y = x2 + (1 : Int32) := ⟨_, rfl⟩
          have h := h x_11 ex_11
          refine lv_iinc (v := x_11) (lv' := [(2, .int x_11), (0, .ref (ad 0)), (1, .int x1)]) hx hb dX12_gather_194 hl (k := 2) rfl (by rw [ex_11]; rfl) (by decide) rfl (fun ls hl => ?_)
          refine lv_goto (tgt := 173) hx hb dX12_gather_197 (by decide) ?_
          exact ih x1 x_11 g k _ _ _ h hw (lv_sub hl [1, 2, 0] rfl)
        · have h := h.2 c_10
          refine lv_aload_n hx hb dX12_gather_189 rfl (lv_at hl 0 rfl) ?_
          refine lv_iload_n hx hb dX12_gather_190 rfl (lv_at hl 2 rfl) ?_
          refine cVVw (q0 := 0) kmX12_284 hC hw (m_X12_markWithin l D cI cC cZ cJ ad n x2 g k h) rfl rfl ⟨by decide, by decide⟩ rfl rfl rfl hl.1 (Nat.le_of_ble_eq_true rfl) dX12_gather_191 ⟨Nat.zero_le _, Nat.zero_le _⟩ rfl ?_
          intro u H locs h hw
          obtain ⟨g_12, k_13⟩ := u
          dsimp only at h hw
          obtain ⟨x_15, ex_15⟩ : ∃ y : Int32, y = x2 + (1 : Int32) := ⟨_, rfl⟩
          have h := h x_15 ex_15
          refine lv_iinc (v := x_15) (lv' := [(2, .int x_15), (0, .ref (ad 0)), (1, .int x1)]) hx hb dX12_gather_194 hl (k := 2) rfl (by rw [ex_15]; rfl) (by decide) rfl (fun ls hl => ?_)
          refine lv_goto (tgt := 173) hx hb dX12_gather_197 (by decide) ?_
          exact ih x1 x_15 g_12 k_13 _ _ _ h hw (lv_sub hl [1, 2, 0] rfl)
  have w_158 : ∀ (n : Nat) (x1 : Int32) (g : St) (k : StL) (H : Heap) (locs : List Loc) (ls : Array Slot), V_X12_gather_158 post n x1 g k → Wd D (ty4 cI cC cZ cJ) A s (wM ad cI cC cZ cJ g k) H locs → lv_has ls 3 [(0, .ref (ad 0)), (1, .int x1)] → W p l e RM_X12_gather s m args below meth c H locs 0 0 (QV below D (ty4 cI cC cZ cJ) A args s (fun u : St × StL => (wM ad cI cC cZ cJ u.1 u.2)) (fun u : St × StL => post u.1 u.2)) (F0 m 158 ls []) := by
    intro n
    induction n with
    | zero =>
      intro x1 g k H locs ls h
      exact False.elim h
    | succ n ih =>
      intro x1 g k H locs ls h hw hl
      rw [V_X12_gather_158] at h
      refine lv_iload_n hx hb dX12_gather_158 rfl (lv_at hl 1 rfl) ?_
      refine lv_aload_n hx hb dX12_gather_159 rfl (lv_at hl 0 rfl) ?_
      refine cVIw (q0 := 0) kmX12_281 hC hw (m_X12_marks l D cI cC cZ cJ ad n  g k h) rfl rfl ⟨by decide, by decide⟩ rfl rfl rfl hl.1 (Nat.le_of_ble_eq_true rfl) dX12_gather_160 ⟨Nat.zero_le _, Nat.zero_le _⟩ rfl ?_
      intro r_18 u H locs h hw
      obtain ⟨g_16, k_17⟩ := u
      dsimp only at h hw
      refine lv_icmp_eq (tgt := 203) hx hb dX12_gather_163 (by decide) (fun c_19 => ?_) (fun c_19 => ?_)
      · have h := h.1 c_19
        refine lv_aload_n hx hb dX12_gather_203 rfl (lv_at hl 0 rfl) ?_
        refine lv_iconst (v := (0 : Int32)) hx hb dX12_gather_204 (by decide) ?_
        refine pwM_17 kpX12_287 hC hw dX12_gather_205 (fun H locs g_20 eg_20 hw => ?_)
        have h := h g_20 eg_20
        refine lv_iconst (v := (0 : Int32)) hx hb dX12_gather_208 (by decide) ?_
        refine lv_topi (fun x_21 ex_21 => ?_)
        have h := h x_21 ex_21
        refine lv_istore_n (lv' := [(2, .int x_21), (0, .ref (ad 0)), (1, .int x1)]) hx hb dX12_gather_209 rfl hl (by decide) rfl (fun ls hl => ?_)
        exact w_210 n x_21 g_20 k_17 _ _ _ h hw (lv_sub hl [1, 0] rfl)
      · have h := h.2 c_19
        refine lv_aload_n hx hb dX12_gather_166 rfl (lv_at hl 0 rfl) ?_
        refine cVIw (q0 := 0) kmX12_281 hC hw (m_X12_marks l D cI cC cZ cJ ad n  g_16 k_17 h) rfl rfl ⟨by decide, by decide⟩ rfl rfl rfl hl.1 (Nat.le_of_ble_eq_true rfl) dX12_gather_167 ⟨Nat.zero_le _, Nat.zero_le _⟩ rfl ?_
        intro r_24 u H locs h hw
        obtain ⟨g_22, k_23⟩ := u
        dsimp only at h hw
        refine lv_istore_n (lv' := [(1, .int r_24), (0, .ref (ad 0))]) hx hb dX12_gather_170 rfl hl (by decide) rfl (fun ls hl => ?_)
        refine lv_iconst (v := (0 : Int32)) hx hb dX12_gather_171 (by decide) ?_
        refine lv_topi (fun x_25 ex_25 => ?_)
        have h := h x_25 ex_25
        refine lv_istore_n (lv' := [(2, .int x_25), (1, .int r_24), (0, .ref (ad 0))]) hx hb dX12_gather_172 rfl hl (by decide) rfl (fun ls hl => ?_)
        exact w_173 _ ih n r_24 x_25 g_22 k_23 _ _ _ h hw (lv_sub hl [2, 1, 0] rfl)
  have w_121 : ∀ (n : Nat) (x1 : Int32) (g : St) (k : StL) (H : Heap) (locs : List Loc) (ls : Array Slot), V_X12_gather_121 post n x1 g k → Wd D (ty4 cI cC cZ cJ) A s (wM ad cI cC cZ cJ g k) H locs → lv_has ls 3 [(0, .ref (ad 0)), (1, .int x1)] → W p l e RM_X12_gather s m args below meth c H locs 0 0 (QV below D (ty4 cI cC cZ cJ) A args s (fun u : St × StL => (wM ad cI cC cZ cJ u.1 u.2)) (fun u : St × StL => post u.1 u.2)) (F0 m 121 ls []) := by
    intro n
    induction n with
    | zero =>
      intro x1 g k H locs ls h
      exact False.elim h
    | succ n ih =>
      intro x1 g k H locs ls h hw hl
      rw [V_X12_gather_121] at h
      refine lv_iload_n hx hb dX12_gather_121 rfl (lv_at hl 1 rfl) ?_
      refine lv_aload_n hx hb dX12_gather_122 rfl (lv_at hl 0 rfl) ?_
      refine gt (v := .int (g 0 12)) kfX12_278 0 hC hw rfl rfl dX12_gather_123 ?_
      refine lv_icmp_ge (tgt := 156) hx hb dX12_gather_126 (by decide) (fun c_26 => ?_) (fun c_26 => ?_)
      · have h := h.1 c_26
        refine lv_iconst (v := (-1 : Int32)) hx hb dX12_gather_156 (by decide) ?_
        refine lv_topi (fun x_27 ex_27 => ?_)
        have h := h x_27 ex_27
        refine lv_istore_n (lv' := [(1, .int x_27), (0, .ref (ad 0))]) hx hb dX12_gather_157 rfl hl (by decide) rfl (fun ls hl => ?_)
        exact w_158 n x_27 g k _ _ _ h hw (lv_sub hl [1, 0] rfl)
      · have h := h.2 c_26
        refine lv_aload_n hx hb dX12_gather_129 rfl (lv_at hl 0 rfl) ?_
        refine gt (v := .ref (ad 17)) kfX12_122 0 hC hw rfl rfl dX12_gather_130 ?_
        refine lv_iload_n hx hb dX12_gather_133 rfl (lv_at hl 1 rfl) ?_
        refine ldI 17 0 hC hw rfl rfl h.1 dX12_gather_134 ?_
        have h := h.2
        refine lv_bipush (v := (32 : Int32)) hx hb dX12_gather_135 (by decide) ?_
        refine lv_icmp_ne (tgt := 150) hx hb dX12_gather_137 (by decide) (fun c_28 => ?_) (fun c_28 => ?_)
        · have h := h.1 c_28
          obtain ⟨x_29, ex_29⟩ : ∃ y : Int32, y = x1 + (1 : Int32) := ⟨_, rfl⟩
          have h := h x_29 ex_29
          refine lv_iinc (v := x_29) (lv' := [(1, .int x_29), (0, .ref (ad 0))]) hx hb dX12_gather_150 hl (k := 1) rfl (by rw [ex_29]; rfl) (by decide) rfl (fun ls hl => ?_)
          refine lv_goto (tgt := 121) hx hb dX12_gather_153 (by decide) ?_
          exact ih x_29 g k _ _ _ h hw (lv_sub hl [1, 0] rfl)
        · have h := h.2 c_28
          refine lv_aload_n hx hb dX12_gather_140 rfl (lv_at hl 0 rfl) ?_
          refine lv_aload_n hx hb dX12_gather_141 rfl (lv_at hl 0 rfl) ?_
          refine gt (v := .ref (ad 21)) kfX12_134 0 hC hw rfl rfl dX12_gather_142 ?_
          refine lv_iload_n hx hb dX12_gather_145 rfl (lv_at hl 1 rfl) ?_
          refine ldI 21 0 hC hw rfl rfl h.1 dX12_gather_146 ?_
          have h := h.2
          refine cVVw (q0 := 0) kmX12_272 hC hw (m_X12_markFrame l D cI cC cZ cJ ad (g 19 x1.toNatClampNeg) g k h) rfl rfl ⟨by decide, by decide⟩ rfl rfl rfl hl.1 (Nat.le_of_ble_eq_true rfl) dX12_gather_147 ⟨Nat.zero_le _, Nat.zero_le _⟩ rfl ?_
          intro u H locs h hw
          obtain ⟨g_30, k_31⟩ := u
          dsimp only at h hw
          obtain ⟨x_33, ex_33⟩ : ∃ y : Int32, y = x1 + (1 : Int32) := ⟨_, rfl⟩
          have h := h x_33 ex_33
          refine lv_iinc (v := x_33) (lv' := [(1, .int x_33), (0, .ref (ad 0))]) hx hb dX12_gather_150 hl (k := 1) rfl (by rw [ex_33]; rfl) (by decide) rfl (fun ls hl => ?_)
          refine lv_goto (tgt := 121) hx hb dX12_gather_153 (by decide) ?_
          exact ih x_33 g_30 k_31 _ _ _ h hw (lv_sub hl [1, 0] rfl)
  have w_95 : ∀ (n : Nat) (x1 : Int32) (g : St) (k : StL) (H : Heap) (locs : List Loc) (ls : Array Slot), V_X12_gather_95 post n x1 g k → Wd D (ty4 cI cC cZ cJ) A s (wM ad cI cC cZ cJ g k) H locs → lv_has ls 3 [(0, .ref (ad 0)), (1, .int x1)] → W p l e RM_X12_gather s m args below meth c H locs 0 0 (QV below D (ty4 cI cC cZ cJ) A args s (fun u : St × StL => (wM ad cI cC cZ cJ u.1 u.2)) (fun u : St × StL => post u.1 u.2)) (F0 m 95 ls []) := by
    intro n
    induction n with
    | zero =>
      intro x1 g k H locs ls h
      exact False.elim h
    | succ n ih =>
      intro x1 g k H locs ls h hw hl
      rw [V_X12_gather_95] at h
      refine lv_iload_n hx hb dX12_gather_95 rfl (lv_at hl 1 rfl) ?_
      refine lv_aload_n hx hb dX12_gather_96 rfl (lv_at hl 0 rfl) ?_
      refine gt (v := .int (g 0 13)) kfX12_275 0 hC hw rfl rfl dX12_gather_97 ?_
      refine lv_icmp_ge (tgt := 119) hx hb dX12_gather_100 (by decide) (fun c_34 => ?_) (fun c_34 => ?_)
      · have h := h.1 c_34
        refine lv_iconst (v := (0 : Int32)) hx hb dX12_gather_119 (by decide) ?_
        refine lv_topi (fun x_35 ex_35 => ?_)
        have h := h x_35 ex_35
        refine lv_istore_n (lv' := [(1, .int x_35), (0, .ref (ad 0))]) hx hb dX12_gather_120 rfl hl (by decide) rfl (fun ls hl => ?_)
        exact w_121 n x_35 g k _ _ _ h hw (lv_sub hl [1, 0] rfl)
      · have h := h.2 c_34
        refine lv_aload_n hx hb dX12_gather_103 rfl (lv_at hl 0 rfl) ?_
        refine lv_aload_n hx hb dX12_gather_104 rfl (lv_at hl 0 rfl) ?_
        refine gt (v := .ref (ad 23)) kfX12_140 0 hC hw rfl rfl dX12_gather_105 ?_
        refine lv_iload_n hx hb dX12_gather_108 rfl (lv_at hl 1 rfl) ?_
        refine ldI 23 0 hC hw rfl rfl h.1 dX12_gather_109 ?_
        have h := h.2
        refine cVVw (q0 := 0) kmX12_269 hC hw (m_X12_mark l D cI cC cZ cJ ad (g 21 x1.toNatClampNeg) g k h) rfl rfl ⟨by decide, by decide⟩ rfl rfl rfl hl.1 (Nat.le_of_ble_eq_true rfl) dX12_gather_110 ⟨Nat.zero_le _, Nat.zero_le _⟩ rfl ?_
        intro u H locs h hw
        obtain ⟨g_36, k_37⟩ := u
        dsimp only at h hw
        obtain ⟨x_39, ex_39⟩ : ∃ y : Int32, y = x1 + (1 : Int32) := ⟨_, rfl⟩
        have h := h x_39 ex_39
        refine lv_iinc (v := x_39) (lv' := [(1, .int x_39), (0, .ref (ad 0))]) hx hb dX12_gather_113 hl (k := 1) rfl (by rw [ex_39]; rfl) (by decide) rfl (fun ls hl => ?_)
        refine lv_goto (tgt := 95) hx hb dX12_gather_116 (by decide) ?_
        exact ih x_39 g_36 k_37 _ _ _ h hw (lv_sub hl [1, 0] rfl)
  have w_59 : ∀ (n : Nat) (x1 : Int32) (g : St) (k : StL) (H : Heap) (locs : List Loc) (ls : Array Slot), V_X12_gather_59 post n x1 g k → Wd D (ty4 cI cC cZ cJ) A s (wM ad cI cC cZ cJ g k) H locs → lv_has ls 3 [(0, .ref (ad 0)), (1, .int x1)] → W p l e RM_X12_gather s m args below meth c H locs 0 0 (QV below D (ty4 cI cC cZ cJ) A args s (fun u : St × StL => (wM ad cI cC cZ cJ u.1 u.2)) (fun u : St × StL => post u.1 u.2)) (F0 m 59 ls []) := by
    intro n
    induction n with
    | zero =>
      intro x1 g k H locs ls h
      exact False.elim h
    | succ n ih =>
      intro x1 g k H locs ls h hw hl
      rw [V_X12_gather_59] at h
      refine lv_iload_n hx hb dX12_gather_59 rfl (lv_at hl 1 rfl) ?_
      refine lv_aload_n hx hb dX12_gather_60 rfl (lv_at hl 0 rfl) ?_
      refine gt (v := .int (g 0 3)) kfX12_188 0 hC hw rfl rfl dX12_gather_61 ?_
      refine lv_icmp_ge (tgt := 93) hx hb dX12_gather_64 (by decide) (fun c_40 => ?_) (fun c_40 => ?_)
      · have h := h.1 c_40
        refine lv_iconst (v := (0 : Int32)) hx hb dX12_gather_93 (by decide) ?_
        refine lv_topi (fun x_41 ex_41 => ?_)
        have h := h x_41 ex_41
        refine lv_istore_n (lv' := [(1, .int x_41), (0, .ref (ad 0))]) hx hb dX12_gather_94 rfl hl (by decide) rfl (fun ls hl => ?_)
        exact w_95 n x_41 g k _ _ _ h hw (lv_sub hl [1, 0] rfl)
      · have h := h.2 c_40
        refine lv_aload_n hx hb dX12_gather_67 rfl (lv_at hl 0 rfl) ?_
        refine lv_aload_n hx hb dX12_gather_68 rfl (lv_at hl 0 rfl) ?_
        refine gt (v := .ref (ad 8)) kfX12_95 0 hC hw rfl rfl dX12_gather_69 ?_
        refine lv_iload_n hx hb dX12_gather_72 rfl (lv_at hl 1 rfl) ?_
        refine ldI 8 0 hC hw rfl rfl h.1 dX12_gather_73 ?_
        have h := h.2
        refine cVVw (q0 := 0) kmX12_269 hC hw (m_X12_mark l D cI cC cZ cJ ad (g 6 x1.toNatClampNeg) g k h) rfl rfl ⟨by decide, by decide⟩ rfl rfl rfl hl.1 (Nat.le_of_ble_eq_true rfl) dX12_gather_74 ⟨Nat.zero_le _, Nat.zero_le _⟩ rfl ?_
        intro u H locs h hw
        obtain ⟨g_42, k_43⟩ := u
        dsimp only at h hw
        refine lv_aload_n hx hb dX12_gather_77 rfl (lv_at hl 0 rfl) ?_
        refine lv_aload_n hx hb dX12_gather_78 rfl (lv_at hl 0 rfl) ?_
        refine gt (v := .ref (ad 9)) kfX12_98 0 hC hw rfl rfl dX12_gather_79 ?_
        refine lv_iload_n hx hb dX12_gather_82 rfl (lv_at hl 1 rfl) ?_
        refine ldI 9 0 hC hw rfl rfl h.1 dX12_gather_83 ?_
        have h := h.2
        refine cVVw (q0 := 0) kmX12_269 hC hw (m_X12_mark l D cI cC cZ cJ ad (g_42 7 x1.toNatClampNeg) g_42 k_43 h) rfl rfl ⟨by decide, by decide⟩ rfl rfl rfl hl.1 (Nat.le_of_ble_eq_true rfl) dX12_gather_84 ⟨Nat.zero_le _, Nat.zero_le _⟩ rfl ?_
        intro u H locs h hw
        obtain ⟨g_45, k_46⟩ := u
        dsimp only at h hw
        obtain ⟨x_48, ex_48⟩ : ∃ y : Int32, y = x1 + (1 : Int32) := ⟨_, rfl⟩
        have h := h x_48 ex_48
        refine lv_iinc (v := x_48) (lv' := [(1, .int x_48), (0, .ref (ad 0))]) hx hb dX12_gather_87 hl (k := 1) rfl (by rw [ex_48]; rfl) (by decide) rfl (fun ls hl => ?_)
        refine lv_goto (tgt := 59) hx hb dX12_gather_90 (by decide) ?_
        exact ih x_48 g_45 k_46 _ _ _ h hw (lv_sub hl [1, 0] rfl)
  have w_24 : ∀ (n : Nat) (x1 : Int32) (g : St) (k : StL) (H : Heap) (locs : List Loc) (ls : Array Slot), V_X12_gather_24 post n x1 g k → Wd D (ty4 cI cC cZ cJ) A s (wM ad cI cC cZ cJ g k) H locs → lv_has ls 3 [(0, .ref (ad 0)), (1, .int x1)] → W p l e RM_X12_gather s m args below meth c H locs 0 0 (QV below D (ty4 cI cC cZ cJ) A args s (fun u : St × StL => (wM ad cI cC cZ cJ u.1 u.2)) (fun u : St × StL => post u.1 u.2)) (F0 m 24 ls []) := by
    intro n
    induction n with
    | zero =>
      intro x1 g k H locs ls h
      exact False.elim h
    | succ n ih =>
      intro x1 g k H locs ls h hw hl
      rw [V_X12_gather_24] at h
      refine lv_iload_n hx hb dX12_gather_24 rfl (lv_at hl 1 rfl) ?_
      refine lv_aload_n hx hb dX12_gather_25 rfl (lv_at hl 0 rfl) ?_
      refine gt (v := .int (g 0 2)) kfX12_185 0 hC hw rfl rfl dX12_gather_26 ?_
      refine lv_icmp_ge (tgt := 57) hx hb dX12_gather_29 (by decide) (fun c_49 => ?_) (fun c_49 => ?_)
      · have h := h.1 c_49
        refine lv_iconst (v := (0 : Int32)) hx hb dX12_gather_57 (by decide) ?_
        refine lv_topi (fun x_50 ex_50 => ?_)
        have h := h x_50 ex_50
        refine lv_istore_n (lv' := [(1, .int x_50), (0, .ref (ad 0))]) hx hb dX12_gather_58 rfl hl (by decide) rfl (fun ls hl => ?_)
        exact w_59 n x_50 g k _ _ _ h hw (lv_sub hl [1, 0] rfl)
      · have h := h.2 c_49
        refine lv_aload_n hx hb dX12_gather_32 rfl (lv_at hl 0 rfl) ?_
        refine gt (v := .ref (ad 3)) kfX12_17 0 hC hw rfl rfl dX12_gather_33 ?_
        refine lv_iload_n hx hb dX12_gather_36 rfl (lv_at hl 1 rfl) ?_
        refine ldZ 3 2 hC hw rfl rfl h.1 dX12_gather_37 ?_
        have h := h.2
        refine lv_if_eq (tgt := 51) hx hb dX12_gather_38 (by decide) (fun c_51 => ?_) (fun c_51 => ?_)
        · have h := h.1 c_51
          obtain ⟨x_52, ex_52⟩ : ∃ y : Int32, y = x1 + (1 : Int32) := ⟨_, rfl⟩
          have h := h x_52 ex_52
          refine lv_iinc (v := x_52) (lv' := [(1, .int x_52), (0, .ref (ad 0))]) hx hb dX12_gather_51 hl (k := 1) rfl (by rw [ex_52]; rfl) (by decide) rfl (fun ls hl => ?_)
          refine lv_goto (tgt := 24) hx hb dX12_gather_54 (by decide) ?_
          exact ih x_52 g k _ _ _ h hw (lv_sub hl [1, 0] rfl)
        · have h := h.2 c_51
          refine lv_aload_n hx hb dX12_gather_41 rfl (lv_at hl 0 rfl) ?_
          refine lv_aload_n hx hb dX12_gather_42 rfl (lv_at hl 0 rfl) ?_
          refine gt (v := .ref (ad 4)) kfX12_21 0 hC hw rfl rfl dX12_gather_43 ?_
          refine lv_iload_n hx hb dX12_gather_46 rfl (lv_at hl 1 rfl) ?_
          refine ldI 4 0 hC hw rfl rfl h.1 dX12_gather_47 ?_
          have h := h.2
          refine cVVw (q0 := 0) kmX12_269 hC hw (m_X12_mark l D cI cC cZ cJ ad (g 3 x1.toNatClampNeg) g k h) rfl rfl ⟨by decide, by decide⟩ rfl rfl rfl hl.1 (Nat.le_of_ble_eq_true rfl) dX12_gather_48 ⟨Nat.zero_le _, Nat.zero_le _⟩ rfl ?_
          intro u H locs h hw
          obtain ⟨g_53, k_54⟩ := u
          dsimp only at h hw
          obtain ⟨x_56, ex_56⟩ : ∃ y : Int32, y = x1 + (1 : Int32) := ⟨_, rfl⟩
          have h := h x_56 ex_56
          refine lv_iinc (v := x_56) (lv' := [(1, .int x_56), (0, .ref (ad 0))]) hx hb dX12_gather_51 hl (k := 1) rfl (by rw [ex_56]; rfl) (by decide) rfl (fun ls hl => ?_)
          refine lv_goto (tgt := 24) hx hb dX12_gather_54 (by decide) ?_
          exact ih x_56 g_53 k_54 _ _ _ h hw (lv_sub hl [1, 0] rfl)
  have w_2 : ∀ (n : Nat) (x1 : Int32) (g : St) (k : StL) (H : Heap) (locs : List Loc) (ls : Array Slot), V_X12_gather_2 post n x1 g k → Wd D (ty4 cI cC cZ cJ) A s (wM ad cI cC cZ cJ g k) H locs → lv_has ls 3 [(0, .ref (ad 0)), (1, .int x1)] → W p l e RM_X12_gather s m args below meth c H locs 0 0 (QV below D (ty4 cI cC cZ cJ) A args s (fun u : St × StL => (wM ad cI cC cZ cJ u.1 u.2)) (fun u : St × StL => post u.1 u.2)) (F0 m 2 ls []) := by
    intro n
    induction n with
    | zero =>
      intro x1 g k H locs ls h
      exact False.elim h
    | succ n ih =>
      intro x1 g k H locs ls h hw hl
      rw [V_X12_gather_2] at h
      refine lv_iload_n hx hb dX12_gather_2 rfl (lv_at hl 1 rfl) ?_
      refine lv_sipush (v := (168 : Int32)) hx hb dX12_gather_3 (by decide) ?_
      refine lv_icmp_ge (tgt := 22) hx hb dX12_gather_6 (by decide) (fun c_57 => ?_) (fun c_57 => ?_)
      · have h := h.1 c_57
        refine lv_iconst (v := (0 : Int32)) hx hb dX12_gather_22 (by decide) ?_
        refine lv_topi (fun x_58 ex_58 => ?_)
        have h := h x_58 ex_58
        refine lv_istore_n (lv' := [(1, .int x_58), (0, .ref (ad 0))]) hx hb dX12_gather_23 rfl hl (by decide) rfl (fun ls hl => ?_)
        exact w_24 n x_58 g k _ _ _ h hw (lv_sub hl [1, 0] rfl)
      · have h := h.2 c_57
        refine lv_aload_n hx hb dX12_gather_9 rfl (lv_at hl 0 rfl) ?_
        refine gt (v := .ref (ad 13)) kfX12_110 0 hC hw rfl rfl dX12_gather_10 ?_
        refine lv_iload_n hx hb dX12_gather_13 rfl (lv_at hl 1 rfl) ?_
        refine lv_iconst (v := (0 : Int32)) hx hb dX12_gather_14 (by decide) ?_
        refine swM_13 h.1 hC hw dX12_gather_15 (fun H locs g_59 eg_59 hw => ?_)
        have h := h.2 g_59 eg_59
        obtain ⟨x_60, ex_60⟩ : ∃ y : Int32, y = x1 + (1 : Int32) := ⟨_, rfl⟩
        have h := h x_60 ex_60
        refine lv_iinc (v := x_60) (lv' := [(1, .int x_60), (0, .ref (ad 0))]) hx hb dX12_gather_16 hl (k := 1) rfl (by rw [ex_60]; rfl) (by decide) rfl (fun ls hl => ?_)
        refine lv_goto (tgt := 2) hx hb dX12_gather_19 (by decide) ?_
        exact ih x_60 g_59 k _ _ _ h hw (lv_sub hl [1, 0] rfl)
  unfold V_X12_gather at h
  refine lv_iconst (v := (0 : Int32)) hx hb dX12_gather_0 (by decide) ?_
  refine lv_topi (fun x_61 ex_61 => ?_)
  have h := h x_61 ex_61
  refine lv_istore_n (lv' := [(1, .int x_61), (0, .ref (ad 0))]) hx hb dX12_gather_1 rfl hl (by decide) rfl (fun ls hl => ?_)
  exact w_2 n x_61 g k _ _ _ h hw (lv_sub hl [1, 0] rfl)
def V_X12_room (n : Nat) (x1 : Int32) (g : St) (k : StL) (post : Int32 → St → StL → Prop) : Prop := ((((g 0 4) + x1) ≤ (g 0 1) → (((g 0 1) < ((g 0 4) + x1) → ∀ g_3 : St, g_3 = us g 18 (2 : Int32) → post (0 : Int32) g_3 k) ∧ (¬ (g 0 1) < ((g 0 4) + x1) → post (1 : Int32) g k))) ∧ (¬ ((g 0 4) + x1) ≤ (g 0 1) → V_X12_gather n  g k (fun g_4 k_5 => (((g_4 0 1) < ((g_4 0 4) + x1) → ∀ g_8 : St, g_8 = us g_4 18 (2 : Int32) → post (0 : Int32) g_8 k_5) ∧ (¬ (g_4 0 1) < ((g_4 0 4) + x1) → post (1 : Int32) g_4 k_5)))))
abbrev RM_X12_room : Room := { frames := 4, cells := 0, slots := 0, locals := 88 }
set_option maxHeartbeats 4000000 in
set_option maxRecDepth 100000 in
theorem m_X12_room (l : Launch) (D : va_G) (cI cC cZ cJ : ClassId) (ad : Nat → Nat) (n : Nat) (x1 : Int32) (g : St) (k : StL) {post : Int32 → St → StL → Prop} (h : V_X12_room n x1 g k post) : MetI l yX12_room cX12_room 2 .boolean RM_X12_room D (ty4 cI cC cZ cJ) (wM ad cI cC cZ cJ g k) [.ref (ad 0), .int x1] (fun u : St × StL => (wM ad cI cC cZ cJ u.1 u.2)) (fun (r : Int32) (u : St × StL) => post r u.1 u.2) := by
  refine mkI (by decide) (Nat.le_of_ble_eq_true rfl) ?_
  intro p e s m args below meth c A ls hC hr hlk hw hl
  have hx := hC.1
  have hb := hC.2.1
  have hl : lv_has ls 2 [(0, .ref (ad 0)), (1, .int x1)] := hl
  unfold V_X12_room at h
  refine lv_aload_n hx hb dX12_room_0 rfl (lv_at hl 0 rfl) ?_
  refine gt (v := .int (g 0 4)) kfX12_287 0 hC hw rfl rfl dX12_room_1 ?_
  refine lv_iload_n hx hb dX12_room_4 rfl (lv_at hl 1 rfl) ?_
  refine lv_iadd hx hb dX12_room_5 ?_
  refine lv_aload_n hx hb dX12_room_6 rfl (lv_at hl 0 rfl) ?_
  refine gt (v := .int (g 0 1)) kfX12_159 0 hC hw rfl rfl dX12_room_7 ?_
  refine lv_icmp_le (tgt := 17) hx hb dX12_room_10 (by decide) (fun c_1 => ?_) (fun c_1 => ?_)
  · have h := h.1 c_1
    refine lv_aload_n hx hb dX12_room_17 rfl (lv_at hl 0 rfl) ?_
    refine gt (v := .int (g 0 4)) kfX12_287 0 hC hw rfl rfl dX12_room_18 ?_
    refine lv_iload_n hx hb dX12_room_21 rfl (lv_at hl 1 rfl) ?_
    refine lv_iadd hx hb dX12_room_22 ?_
    refine lv_aload_n hx hb dX12_room_23 rfl (lv_at hl 0 rfl) ?_
    refine gt (v := .int (g 0 1)) kfX12_159 0 hC hw rfl rfl dX12_room_24 ?_
    refine lv_icmp_gt (tgt := 32) hx hb dX12_room_27 (by decide) (fun c_2 => ?_) (fun c_2 => ?_)
    · have h := h.1 c_2
      refine lv_aload_n hx hb dX12_room_32 rfl (lv_at hl 0 rfl) ?_
      refine lv_iconst (v := (2 : Int32)) hx hb dX12_room_33 (by decide) ?_
      refine pwM_42 kpX12_299 hC hw dX12_room_34 (fun H locs g_3 eg_3 hw => ?_)
      have h := h g_3 eg_3
      refine lv_iconst (v := (0 : Int32)) hx hb dX12_room_37 (by decide) ?_
      exact rtI (wf := (fun u : St × StL => (wM ad cI cC cZ cJ u.1 u.2))) (g_3, k) hC hr hlk hw (by decide) h dX12_room_38
    · have h := h.2 c_2
      refine lv_iconst (v := (1 : Int32)) hx hb dX12_room_30 (by decide) ?_
      exact rtI (wf := (fun u : St × StL => (wM ad cI cC cZ cJ u.1 u.2))) (g, k) hC hr hlk hw (by decide) h dX12_room_31
  · have h := h.2 c_1
    refine lv_aload_n hx hb dX12_room_13 rfl (lv_at hl 0 rfl) ?_
    refine cVVw (q0 := 0) kmX12_296 hC hw (m_X12_gather l D cI cC cZ cJ ad n  g k h) rfl rfl ⟨by decide, by decide⟩ rfl rfl rfl hl.1 (Nat.le_of_ble_eq_true rfl) dX12_room_14 ⟨Nat.zero_le _, Nat.zero_le _⟩ rfl ?_
    intro u H locs h hw
    obtain ⟨g_4, k_5⟩ := u
    dsimp only at h hw
    refine lv_aload_n hx hb dX12_room_17 rfl (lv_at hl 0 rfl) ?_
    refine gt (v := .int (g_4 0 4)) kfX12_287 0 hC hw rfl rfl dX12_room_18 ?_
    refine lv_iload_n hx hb dX12_room_21 rfl (lv_at hl 1 rfl) ?_
    refine lv_iadd hx hb dX12_room_22 ?_
    refine lv_aload_n hx hb dX12_room_23 rfl (lv_at hl 0 rfl) ?_
    refine gt (v := .int (g_4 0 1)) kfX12_159 0 hC hw rfl rfl dX12_room_24 ?_
    refine lv_icmp_gt (tgt := 32) hx hb dX12_room_27 (by decide) (fun c_7 => ?_) (fun c_7 => ?_)
    · have h := h.1 c_7
      refine lv_aload_n hx hb dX12_room_32 rfl (lv_at hl 0 rfl) ?_
      refine lv_iconst (v := (2 : Int32)) hx hb dX12_room_33 (by decide) ?_
      refine pwM_42 kpX12_299 hC hw dX12_room_34 (fun H locs g_8 eg_8 hw => ?_)
      have h := h g_8 eg_8
      refine lv_iconst (v := (0 : Int32)) hx hb dX12_room_37 (by decide) ?_
      exact rtI (wf := (fun u : St × StL => (wM ad cI cC cZ cJ u.1 u.2))) (g_8, k_5) hC hr hlk hw (by decide) h dX12_room_38
    · have h := h.2 c_7
      refine lv_iconst (v := (1 : Int32)) hx hb dX12_room_30 (by decide) ?_
      exact rtI (wf := (fun u : St × StL => (wM ad cI cC cZ cJ u.1 u.2))) (g_4, k_5) hC hr hlk hw (by decide) h dX12_room_31
def V_X12_make_2 (post : Int32 → St → StL → Prop) : Nat → Int32 → Int32 → Int32 → St → StL → Prop
  | 0, _, _, _, _, _ => False
  | n + 1, x1, x2, x3, g, k => (vp_in x3 168 ∧ (((g 8 x3.toNatClampNeg) = 0 → (vp_in x3 168 ∧ ∀ g_2 : St, g_2 = up g 8 x3.toNatClampNeg x1 → (vp_in x3 168 ∧ ∀ g_3 : St, g_3 = up g_2 9 x3.toNatClampNeg x2 → ∀ g_4 : St, g_4 = us g_3 4 ((g_3 0 4) + x2) → post x3 g_4 k))) ∧ (¬ (g 8 x3.toNatClampNeg) = 0 → ∀ x_5 : Int32, x_5 = x3 + (1 : Int32) → V_X12_make_2 post n x1 x2 x_5 g k)))
def V_X12_make (n : Nat) (x1 : Int32) (x2 : Int32) (g : St) (k : StL) (post : Int32 → St → StL → Prop) : Prop := ∀ x_6 : Int32, x_6 = (0 : Int32) → V_X12_make_2 post n x1 x2 x_6 g k
abbrev RM_X12_make : Room := { frames := 0, cells := 0, slots := 0, locals := 0 }
set_option maxHeartbeats 4000000 in
set_option maxRecDepth 100000 in
theorem m_X12_make (l : Launch) (D : va_G) (cI cC cZ cJ : ClassId) (ad : Nat → Nat) (n : Nat) (x1 : Int32) (x2 : Int32) (g : St) (k : StL) {post : Int32 → St → StL → Prop} (h : V_X12_make n x1 x2 g k post) : MetI l yX12_make cX12_make 4 .int RM_X12_make D (ty4 cI cC cZ cJ) (wM ad cI cC cZ cJ g k) [.ref (ad 0), .int x1, .int x2] (fun u : St × StL => (wM ad cI cC cZ cJ u.1 u.2)) (fun (r : Int32) (u : St × StL) => post r u.1 u.2) := by
  refine mkI (by decide) (Nat.le_of_ble_eq_true rfl) ?_
  intro p e s m args below meth c A ls hC hr hlk hw hl
  have hx := hC.1
  have hb := hC.2.1
  have hl : lv_has ls 4 [(0, .ref (ad 0)), (1, .int x1), (2, .int x2)] := hl
  have w_2 : ∀ (n : Nat) (x1 : Int32) (x2 : Int32) (x3 : Int32) (g : St) (k : StL) (H : Heap) (locs : List Loc) (ls : Array Slot), V_X12_make_2 post n x1 x2 x3 g k → Wd D (ty4 cI cC cZ cJ) A s (wM ad cI cC cZ cJ g k) H locs → lv_has ls 4 [(0, .ref (ad 0)), (1, .int x1), (2, .int x2), (3, .int x3)] → W p l e RM_X12_make s m args below meth c H locs 0 0 (QI below D (ty4 cI cC cZ cJ) A args s (fun u : St × StL => (wM ad cI cC cZ cJ u.1 u.2)) (fun (r : Int32) (u : St × StL) => post r u.1 u.2)) (F0 m 2 ls []) := by
    intro n
    induction n with
    | zero =>
      intro x1 x2 x3 g k H locs ls h
      exact False.elim h
    | succ n ih =>
      intro x1 x2 x3 g k H locs ls h hw hl
      rw [V_X12_make_2] at h
      refine lv_aload_n hx hb dX12_make_2 rfl (lv_at hl 0 rfl) ?_
      refine gt (v := .ref (ad 10)) kfX12_101 0 hC hw rfl rfl dX12_make_3 ?_
      refine lv_iload_n hx hb dX12_make_6 rfl (lv_at hl 3 rfl) ?_
      refine ldI 10 0 hC hw rfl rfl h.1 dX12_make_7 ?_
      have h := h.2
      refine lv_if_eq (tgt := 17) hx hb dX12_make_8 (by decide) (fun c_1 => ?_) (fun c_1 => ?_)
      · have h := h.1 c_1
        refine lv_aload_n hx hb dX12_make_17 rfl (lv_at hl 0 rfl) ?_
        refine gt (v := .ref (ad 10)) kfX12_101 0 hC hw rfl rfl dX12_make_18 ?_
        refine lv_iload_n hx hb dX12_make_21 rfl (lv_at hl 3 rfl) ?_
        refine lv_iload_n hx hb dX12_make_22 rfl (lv_at hl 1 rfl) ?_
        refine swM_10 h.1 hC hw dX12_make_23 (fun H locs g_2 eg_2 hw => ?_)
        have h := h.2 g_2 eg_2
        refine lv_aload_n hx hb dX12_make_24 rfl (lv_at hl 0 rfl) ?_
        refine gt (v := .ref (ad 11)) kfX12_104 0 hC hw rfl rfl dX12_make_25 ?_
        refine lv_iload_n hx hb dX12_make_28 rfl (lv_at hl 3 rfl) ?_
        refine lv_iload_n hx hb dX12_make_29 rfl (lv_at hl 2 rfl) ?_
        refine swM_11 h.1 hC hw dX12_make_30 (fun H locs g_3 eg_3 hw => ?_)
        have h := h.2 g_3 eg_3
        refine lv_aload_n hx hb dX12_make_31 rfl (lv_at hl 0 rfl) ?_
        refine lv_dup hx hb dX12_make_32 rfl ?_
        refine gt (v := .int (g_3 0 4)) kfX12_287 0 hC hw rfl rfl dX12_make_33 ?_
        refine lv_iload_n hx hb dX12_make_36 rfl (lv_at hl 2 rfl) ?_
        refine lv_iadd hx hb dX12_make_37 ?_
        refine pwM_17 kpX12_287 hC hw dX12_make_38 (fun H locs g_4 eg_4 hw => ?_)
        have h := h g_4 eg_4
        refine lv_iload_n hx hb dX12_make_41 rfl (lv_at hl 3 rfl) ?_
        exact rtI (wf := (fun u : St × StL => (wM ad cI cC cZ cJ u.1 u.2))) (g_4, k) hC hr hlk hw rfl h dX12_make_42
      · have h := h.2 c_1
        obtain ⟨x_5, ex_5⟩ : ∃ y : Int32, y = x3 + (1 : Int32) := ⟨_, rfl⟩
        have h := h x_5 ex_5
        refine lv_iinc (v := x_5) (lv' := [(3, .int x_5), (0, .ref (ad 0)), (1, .int x1), (2, .int x2)]) hx hb dX12_make_11 hl (k := 3) rfl (by rw [ex_5]; rfl) (by decide) rfl (fun ls hl => ?_)
        refine lv_goto (tgt := 2) hx hb dX12_make_14 (by decide) ?_
        exact ih x1 x2 x_5 g k _ _ _ h hw (lv_sub hl [1, 2, 3, 0] rfl)
  unfold V_X12_make at h
  refine lv_iconst (v := (0 : Int32)) hx hb dX12_make_0 (by decide) ?_
  refine lv_topi (fun x_6 ex_6 => ?_)
  have h := h x_6 ex_6
  refine lv_istore_n (lv' := [(3, .int x_6), (0, .ref (ad 0)), (1, .int x1), (2, .int x2)]) hx hb dX12_make_1 rfl hl (by decide) rfl (fun ls hl => ?_)
  exact w_2 n x1 x2 x_6 g k _ _ _ h hw (lv_sub hl [1, 2, 3, 0] rfl)
def V_X12_call_213 (post : St → StL → Prop) (n : Nat) (x1 : Int32) (x4 : Int32) (x5 : Int32) (g : St) (k : StL) : Prop := ∀ g_1 : St, g_1 = us g 13 x1 → (vp_in ((g_1 0 12) - (1 : Int32)) 1002 ∧ ∀ g_2 : St, g_2 = up g_1 15 ((g_1 0 12) - (1 : Int32)).toNatClampNeg (32 : Int32) → V_X12_cdr x4 g_2 k (fun r_5 g_3 k_4 => (vp_in ((g_2 0 12) - (1 : Int32)) 1002 ∧ ∀ g_6 : St, g_6 = up g_3 17 ((g_2 0 12) - (1 : Int32)).toNatClampNeg r_5 → (vp_in ((g_6 0 12) - (1 : Int32)) 1002 ∧ ∀ g_7 : St, g_7 = up g_6 19 ((g_6 0 12) - (1 : Int32)).toNatClampNeg (x5 + (1 : Int32)) → V_X12_cdr x4 g_7 k_4 (fun r_10 g_8 k_9 => ((¬ r_10 = (1048576 : Int32) → V_X12_next  g_8 k_9 (fun g_12 k_13 => post g_12 k_13)) ∧ (r_10 = (1048576 : Int32) → V_X12_pop (1048576 : Int32) g_8 k_9 (fun g_15 k_16 => post g_15 k_16))))))))
def V_X12_call_146 (post : St → StL → Prop) : Nat → Int32 → Int32 → Int32 → Int32 → Int32 → St → StL → Prop
  | 0, _, _, _, _, _, _, _ => False
  | n + 1, x1, x3, x4, x5, x6, g, k => ((x3 ≤ x6 → ∀ g_19 : St, g_19 = us g 20 ((g 0 20) + (1 : Int32)) → (((g_19 0 20) ≤ (g_19 0 21) → V_X12_call_213 post n x1 x4 x5 g_19 k) ∧ (¬ (g_19 0 20) ≤ (g_19 0 21) → ∀ g_21 : St, g_21 = us g_19 21 (g_19 0 20) → V_X12_call_213 post n x1 x4 x5 g_21 k))) ∧ (¬ x3 ≤ x6 → (vp_in ((x1 + (1 : Int32)) + x6) 1100 ∧ (vp_in ((((8 : Int32) * x5) + (2 : Int32)) + x6) 1344 ∧ ∀ g_22 : St, g_22 = up g 10 ((((8 : Int32) * x5) + (2 : Int32)) + x6).toNatClampNeg (g 21 ((x1 + (1 : Int32)) + x6).toNatClampNeg) → ∀ x_23 : Int32, x_23 = x6 + (1 : Int32) → V_X12_call_146 post n x1 x3 x4 x5 x_23 g_22 k))))
def V_X12_call (n : Nat) (x1 : Int32) (g : St) (k : StL) (post : St → StL → Prop) : Prop := (vp_in x1 1100 ∧ ∀ x_24 : Int32, x_24 = (g 21 x1.toNatClampNeg) → ∀ x_25 : Int32, x_25 = (((g 0 13) - x1) - (1 : Int32)) → V_X12_sortOf x_24 (fun r_26 => ((r_26 = (6 : Int32) → V_X12_load x_24 (fun r_28 => (vp_in ((8 : Int32) * r_28) 1344 ∧ ∀ x_29 : Int32, x_29 = (g 10 ((8 : Int32) * r_28).toNatClampNeg) → V_X12_car x_29 g k (fun r_32 g_30 k_31 => V_X12_parts n r_32 g_30 k_31 (fun r_35 g_33 k_34 => ((r_35 = x_25 → ((¬ (g_33 0 20) = (30 : Int32) → V_X12_room n ((2 : Int32) + x_25) g_33 k_34 (fun r_40 g_38 k_39 => ((¬ r_40 = 0 → V_X12_make n (4 : Int32) ((2 : Int32) + x_25) g_38 k_39 (fun r_44 g_42 k_43 => V_X12_load x_24 (fun r_45 => (vp_in (((8 : Int32) * r_45) + (1 : Int32)) 1344 ∧ (vp_in ((8 : Int32) * r_44) 1344 ∧ ∀ g_46 : St, g_46 = up g_42 10 ((8 : Int32) * r_44).toNatClampNeg (g_42 10 (((8 : Int32) * r_45) + (1 : Int32)).toNatClampNeg) → V_X12_car x_29 g_46 k_43 (fun r_49 g_47 k_48 => (vp_in (((8 : Int32) * r_44) + (1 : Int32)) 1344 ∧ ∀ g_50 : St, g_50 = up g_47 10 (((8 : Int32) * r_44) + (1 : Int32)).toNatClampNeg r_49 → ∀ x_51 : Int32, x_51 = (0 : Int32) → V_X12_call_146 post n x1 x_25 x_29 r_44 x_51 g_50 k_48))))))) ∧ (r_40 = 0 → post g_38 k_39)))) ∧ ((g_33 0 20) = (30 : Int32) → ∀ g_52 : St, g_52 = us g_33 18 (2 : Int32) → post g_52 k_34))) ∧ (¬ r_35 = x_25 → ∀ g_53 : St, g_53 = us g_33 18 (4 : Int32) → post g_53 k_34))))))) ∧ (¬ r_26 = (6 : Int32) → ∀ g_54 : St, g_54 = us g 18 (4 : Int32) → post g_54 k))))
abbrev RM_X12_call : Room := { frames := 5, cells := 0, slots := 0, locals := 109 }
set_option maxHeartbeats 4000000 in
set_option maxRecDepth 100000 in
theorem m_X12_call (l : Launch) (D : va_G) (cI cC cZ cJ : ClassId) (ad : Nat → Nat) (n : Nat) (x1 : Int32) (g : St) (k : StL) {post : St → StL → Prop} (h : V_X12_call n x1 g k post) : MetV l yX12_call cX12_call 7 RM_X12_call D (ty4 cI cC cZ cJ) (wM ad cI cC cZ cJ g k) [.ref (ad 0), .int x1] (fun u : St × StL => (wM ad cI cC cZ cJ u.1 u.2)) (fun u : St × StL => post u.1 u.2) := by
  refine mkV (by decide) (Nat.le_of_ble_eq_true rfl) ?_
  intro p e s m args below meth c A ls hC hr hlk hw hl
  have hx := hC.1
  have hb := hC.2.1
  have hl : lv_has ls 7 [(0, .ref (ad 0)), (1, .int x1)] := hl
  have w_213 : ∀ (n : Nat) (x1 : Int32) (x4 : Int32) (x5 : Int32) (g : St) (k : StL) (H : Heap) (locs : List Loc) (ls : Array Slot), V_X12_call_213 post n x1 x4 x5 g k → Wd D (ty4 cI cC cZ cJ) A s (wM ad cI cC cZ cJ g k) H locs → lv_has ls 7 [(0, .ref (ad 0)), (1, .int x1), (4, .int x4), (5, .int x5)] → W p l e RM_X12_call s m args below meth c H locs 0 0 (QV below D (ty4 cI cC cZ cJ) A args s (fun u : St × StL => (wM ad cI cC cZ cJ u.1 u.2)) (fun u : St × StL => post u.1 u.2)) (F0 m 213 ls []) := by
    intro n x1 x4 x5 g k H locs ls h hw hl
    unfold V_X12_call_213 at h
    refine lv_aload_n hx hb dX12_call_213 rfl (lv_at hl 0 rfl) ?_
    refine lv_iload_n hx hb dX12_call_214 rfl (lv_at hl 1 rfl) ?_
    refine pwM_37 kpX12_275 hC hw dX12_call_215 (fun H locs g_1 eg_1 hw => ?_)
    have h := h g_1 eg_1
    refine lv_aload_n hx hb dX12_call_218 rfl (lv_at hl 0 rfl) ?_
    refine gt (v := .ref (ad 17)) kfX12_122 0 hC hw rfl rfl dX12_call_219 ?_
    refine lv_aload_n hx hb dX12_call_222 rfl (lv_at hl 0 rfl) ?_
    refine gt (v := .int (g_1 0 12)) kfX12_278 0 hC hw rfl rfl dX12_call_223 ?_
    refine lv_iconst (v := (1 : Int32)) hx hb dX12_call_226 (by decide) ?_
    refine lv_isub hx hb dX12_call_227 ?_
    refine lv_bipush (v := (32 : Int32)) hx hb dX12_call_228 (by decide) ?_
    refine swM_17 h.1 hC hw dX12_call_230 (fun H locs g_2 eg_2 hw => ?_)
    have h := h.2 g_2 eg_2
    refine lv_aload_n hx hb dX12_call_231 rfl (lv_at hl 0 rfl) ?_
    refine gt (v := .ref (ad 19)) kfX12_128 0 hC hw rfl rfl dX12_call_232 ?_
    refine lv_aload_n hx hb dX12_call_235 rfl (lv_at hl 0 rfl) ?_
    refine gt (v := .int (g_2 0 12)) kfX12_278 0 hC hw rfl rfl dX12_call_236 ?_
    refine lv_iconst (v := (1 : Int32)) hx hb dX12_call_239 (by decide) ?_
    refine lv_isub hx hb dX12_call_240 ?_
    refine lv_aload_n hx hb dX12_call_241 rfl (lv_at hl 0 rfl) ?_
    refine lv_iload hx hb dX12_call_242 (lv_at hl 2 rfl) ?_
    refine cVIw (q0 := 0) kmX12_251 hC hw (m_X12_cdr l D cI cC cZ cJ ad x4 g_2 k h) rfl rfl ⟨by decide, by decide⟩ rfl rfl rfl hl.1 (Nat.le_of_ble_eq_true rfl) dX12_call_244 ⟨Nat.zero_le _, Nat.zero_le _⟩ rfl ?_
    intro r_5 u H locs h hw
    obtain ⟨g_3, k_4⟩ := u
    dsimp only at h hw
    refine swM_19 h.1 hC hw dX12_call_247 (fun H locs g_6 eg_6 hw => ?_)
    have h := h.2 g_6 eg_6
    refine lv_aload_n hx hb dX12_call_248 rfl (lv_at hl 0 rfl) ?_
    refine gt (v := .ref (ad 21)) kfX12_134 0 hC hw rfl rfl dX12_call_249 ?_
    refine lv_aload_n hx hb dX12_call_252 rfl (lv_at hl 0 rfl) ?_
    refine gt (v := .int (g_6 0 12)) kfX12_278 0 hC hw rfl rfl dX12_call_253 ?_
    refine lv_iconst (v := (1 : Int32)) hx hb dX12_call_256 (by decide) ?_
    refine lv_isub hx hb dX12_call_257 ?_
    refine lv_iload hx hb dX12_call_258 (lv_at hl 3 rfl) ?_
    refine lv_iconst (v := (1 : Int32)) hx hb dX12_call_260 (by decide) ?_
    refine lv_iadd hx hb dX12_call_261 ?_
    refine swM_21 h.1 hC hw dX12_call_262 (fun H locs g_7 eg_7 hw => ?_)
    have h := h.2 g_7 eg_7
    refine lv_aload_n hx hb dX12_call_263 rfl (lv_at hl 0 rfl) ?_
    refine lv_iload hx hb dX12_call_264 (lv_at hl 2 rfl) ?_
    refine cVIw (q0 := 0) kmX12_251 hC hw (m_X12_cdr l D cI cC cZ cJ ad x4 g_7 k_4 h) rfl rfl ⟨by decide, by decide⟩ rfl rfl rfl hl.1 (Nat.le_of_ble_eq_true rfl) dX12_call_266 ⟨Nat.zero_le _, Nat.zero_le _⟩ rfl ?_
    intro r_10 u H locs h hw
    obtain ⟨g_8, k_9⟩ := u
    dsimp only at h hw
    refine lv_ldc (v := (1048576 : Int32)) hx hb hC.2.2.2.1 (hC.2.2.2.2 _ (List.mem_cons_of_mem _ kcX12_184)) dX12_call_269 ?_
    refine lv_icmp_ne (tgt := 283) hx hb dX12_call_271 (by decide) (fun c_11 => ?_) (fun c_11 => ?_)
    · have h := h.1 c_11
      refine lv_aload_n hx hb dX12_call_283 rfl (lv_at hl 0 rfl) ?_
      refine cVVw (q0 := 0) kmX12_341 hC hw (m_X12_next l D cI cC cZ cJ ad  g_8 k_9 h) rfl rfl ⟨by decide, by decide⟩ rfl rfl rfl hl.1 (Nat.le_of_ble_eq_true rfl) dX12_call_284 ⟨Nat.zero_le _, Nat.zero_le _⟩ rfl ?_
      intro u H locs h hw
      obtain ⟨g_12, k_13⟩ := u
      dsimp only at h hw
      exact rtV (wf := (fun u : St × StL => (wM ad cI cC cZ cJ u.1 u.2))) (g_12, k_13) hC hr hlk hw h dX12_call_287
    · have h := h.2 c_11
      refine lv_aload_n hx hb dX12_call_274 rfl (lv_at hl 0 rfl) ?_
      refine lv_ldc (v := (1048576 : Int32)) hx hb hC.2.2.2.1 (hC.2.2.2.2 _ (List.mem_cons_of_mem _ kcX12_184)) dX12_call_275 ?_
      refine cVVw (q0 := 0) kmX12_347 hC hw (m_X12_pop l D cI cC cZ cJ ad (1048576 : Int32) g_8 k_9 h) rfl rfl ⟨by decide, by decide⟩ rfl rfl rfl hl.1 (Nat.le_of_ble_eq_true rfl) dX12_call_277 ⟨Nat.zero_le _, Nat.zero_le _⟩ rfl ?_
      intro u H locs h hw
      obtain ⟨g_15, k_16⟩ := u
      dsimp only at h hw
      refine lv_goto (tgt := 287) hx hb dX12_call_280 (by decide) ?_
      exact rtV (wf := (fun u : St × StL => (wM ad cI cC cZ cJ u.1 u.2))) (g_15, k_16) hC hr hlk hw h dX12_call_287
  have w_146 : ∀ (n : Nat) (x1 : Int32) (x3 : Int32) (x4 : Int32) (x5 : Int32) (x6 : Int32) (g : St) (k : StL) (H : Heap) (locs : List Loc) (ls : Array Slot), V_X12_call_146 post n x1 x3 x4 x5 x6 g k → Wd D (ty4 cI cC cZ cJ) A s (wM ad cI cC cZ cJ g k) H locs → lv_has ls 7 [(0, .ref (ad 0)), (1, .int x1), (3, .int x3), (4, .int x4), (5, .int x5), (6, .int x6)] → W p l e RM_X12_call s m args below meth c H locs 0 0 (QV below D (ty4 cI cC cZ cJ) A args s (fun u : St × StL => (wM ad cI cC cZ cJ u.1 u.2)) (fun u : St × StL => post u.1 u.2)) (F0 m 146 ls []) := by
    intro n
    induction n with
    | zero =>
      intro x1 x3 x4 x5 x6 g k H locs ls h
      exact False.elim h
    | succ n ih =>
      intro x1 x3 x4 x5 x6 g k H locs ls h hw hl
      rw [V_X12_call_146] at h
      refine lv_iload hx hb dX12_call_146 (lv_at hl 5 rfl) ?_
      refine lv_iload_n hx hb dX12_call_148 rfl (lv_at hl 2 rfl) ?_
      refine lv_icmp_ge (tgt := 184) hx hb dX12_call_149 (by decide) (fun c_18 => ?_) (fun c_18 => ?_)
      · have h := h.1 c_18
        refine lv_aload_n hx hb dX12_call_184 rfl (lv_at hl 0 rfl) ?_
        refine lv_dup hx hb dX12_call_185 rfl ?_
        refine gt (v := .int (g 0 20)) kfX12_308 0 hC hw rfl rfl dX12_call_186 ?_
        refine lv_iconst (v := (1 : Int32)) hx hb dX12_call_189 (by decide) ?_
        refine lv_iadd hx hb dX12_call_190 ?_
        refine pwM_44 kpX12_308 hC hw dX12_call_191 (fun H locs g_19 eg_19 hw => ?_)
        have h := h g_19 eg_19
        refine lv_aload_n hx hb dX12_call_194 rfl (lv_at hl 0 rfl) ?_
        refine gt (v := .int (g_19 0 20)) kfX12_308 0 hC hw rfl rfl dX12_call_195 ?_
        refine lv_aload_n hx hb dX12_call_198 rfl (lv_at hl 0 rfl) ?_
        refine gt (v := .int (g_19 0 21)) kfX12_403 0 hC hw rfl rfl dX12_call_199 ?_
        refine lv_icmp_le (tgt := 213) hx hb dX12_call_202 (by decide) (fun c_20 => ?_) (fun c_20 => ?_)
        · have h := h.1 c_20
          exact w_213 n x1 x4 x5 g_19 k _ _ _ h hw (lv_sub hl [0, 1, 3, 4] rfl)
        · have h := h.2 c_20
          refine lv_aload_n hx hb dX12_call_205 rfl (lv_at hl 0 rfl) ?_
          refine lv_aload_n hx hb dX12_call_206 rfl (lv_at hl 0 rfl) ?_
          refine gt (v := .int (g_19 0 20)) kfX12_308 0 hC hw rfl rfl dX12_call_207 ?_
          refine pwM_45 kpX12_403 hC hw dX12_call_210 (fun H locs g_21 eg_21 hw => ?_)
          have h := h g_21 eg_21
          exact w_213 n x1 x4 x5 g_21 k _ _ _ h hw (lv_sub hl [0, 1, 3, 4] rfl)
      · have h := h.2 c_18
        refine lv_aload_n hx hb dX12_call_152 rfl (lv_at hl 0 rfl) ?_
        refine gt (v := .ref (ad 12)) kfX12_107 0 hC hw rfl rfl dX12_call_153 ?_
        refine lv_bipush (v := (8 : Int32)) hx hb dX12_call_156 (by decide) ?_
        refine lv_iload hx hb dX12_call_158 (lv_at hl 4 rfl) ?_
        refine lv_imul hx hb dX12_call_160 ?_
        refine lv_iconst (v := (2 : Int32)) hx hb dX12_call_161 (by decide) ?_
        refine lv_iadd hx hb dX12_call_162 ?_
        refine lv_iload hx hb dX12_call_163 (lv_at hl 5 rfl) ?_
        refine lv_iadd hx hb dX12_call_165 ?_
        refine lv_aload_n hx hb dX12_call_166 rfl (lv_at hl 0 rfl) ?_
        refine gt (v := .ref (ad 23)) kfX12_140 0 hC hw rfl rfl dX12_call_167 ?_
        refine lv_iload_n hx hb dX12_call_170 rfl (lv_at hl 1 rfl) ?_
        refine lv_iconst (v := (1 : Int32)) hx hb dX12_call_171 (by decide) ?_
        refine lv_iadd hx hb dX12_call_172 ?_
        refine lv_iload hx hb dX12_call_173 (lv_at hl 5 rfl) ?_
        refine lv_iadd hx hb dX12_call_175 ?_
        refine ldI 23 0 hC hw rfl rfl h.1 dX12_call_176 ?_
        have h := h.2
        refine swM_12 h.1 hC hw dX12_call_177 (fun H locs g_22 eg_22 hw => ?_)
        have h := h.2 g_22 eg_22
        obtain ⟨x_23, ex_23⟩ : ∃ y : Int32, y = x6 + (1 : Int32) := ⟨_, rfl⟩
        have h := h x_23 ex_23
        refine lv_iinc (v := x_23) (lv' := [(6, .int x_23), (0, .ref (ad 0)), (1, .int x1), (3, .int x3), (4, .int x4), (5, .int x5)]) hx hb dX12_call_178 hl (k := 5) rfl (by rw [ex_23]; rfl) (by decide) rfl (fun ls hl => ?_)
        refine lv_goto (tgt := 146) hx hb dX12_call_181 (by decide) ?_
        exact ih x1 x3 x4 x5 x_23 g_22 k _ _ _ h hw (lv_sub hl [1, 2, 3, 4, 5, 0] rfl)
  unfold V_X12_call at h
  refine lv_aload_n hx hb dX12_call_0 rfl (lv_at hl 0 rfl) ?_
  refine gt (v := .ref (ad 23)) kfX12_140 0 hC hw rfl rfl dX12_call_1 ?_
  refine lv_iload_n hx hb dX12_call_4 rfl (lv_at hl 1 rfl) ?_
  refine ldI 23 0 hC hw rfl rfl h.1 dX12_call_5 ?_
  have h := h.2
  refine lv_topi (fun x_24 ex_24 => ?_)
  have h := h x_24 ex_24
  refine lv_istore_n (lv' := [(2, .int x_24), (0, .ref (ad 0)), (1, .int x1)]) hx hb dX12_call_6 rfl hl (by decide) rfl (fun ls hl => ?_)
  refine lv_aload_n hx hb dX12_call_7 rfl (lv_at hl 1 rfl) ?_
  refine gt (v := .int (g 0 13)) kfX12_275 0 hC hw rfl rfl dX12_call_8 ?_
  refine lv_iload_n hx hb dX12_call_11 rfl (lv_at hl 2 rfl) ?_
  refine lv_isub hx hb dX12_call_12 ?_
  refine lv_iconst (v := (1 : Int32)) hx hb dX12_call_13 (by decide) ?_
  refine lv_isub hx hb dX12_call_14 ?_
  refine lv_topi (fun x_25 ex_25 => ?_)
  have h := h x_25 ex_25
  refine lv_istore_n (lv' := [(3, .int x_25), (2, .int x_24), (0, .ref (ad 0)), (1, .int x1)]) hx hb dX12_call_15 rfl hl (by decide) rfl (fun ls hl => ?_)
  refine lv_iload_n hx hb dX12_call_16 rfl (lv_at hl 1 rfl) ?_
  refine cSI ksX12_254 hC (m_X12_sortOf l x_24 h) rfl rfl ⟨by decide, by decide⟩ rfl hl.1 (Nat.le_of_ble_eq_true rfl) dX12_call_17 ⟨Nat.zero_le _, Nat.zero_le _⟩ rfl ?_
  intro r_26 h
  refine lv_bipush (v := (6 : Int32)) hx hb dX12_call_20 (by decide) ?_
  refine lv_icmp_eq (tgt := 31) hx hb dX12_call_22 (by decide) (fun c_27 => ?_) (fun c_27 => ?_)
  · have h := h.1 c_27
    refine lv_aload_n hx hb dX12_call_31 rfl (lv_at hl 2 rfl) ?_
    refine gt (v := .ref (ad 12)) kfX12_107 0 hC hw rfl rfl dX12_call_32 ?_
    refine lv_bipush (v := (8 : Int32)) hx hb dX12_call_35 (by decide) ?_
    refine lv_iload_n hx hb dX12_call_37 rfl (lv_at hl 1 rfl) ?_
    refine cSI ksX12_180 hC (m_X12_load l x_24 h) rfl rfl ⟨by decide, by decide⟩ rfl hl.1 (Nat.le_of_ble_eq_true rfl) dX12_call_38 ⟨Nat.zero_le _, Nat.zero_le _⟩ rfl ?_
    intro r_28 h
    refine lv_imul hx hb dX12_call_41 ?_
    refine ldI 12 0 hC hw rfl rfl h.1 dX12_call_42 ?_
    have h := h.2
    refine lv_topi (fun x_29 ex_29 => ?_)
    have h := h x_29 ex_29
    refine lv_istore (lv' := [(4, .int x_29), (3, .int x_25), (2, .int x_24), (0, .ref (ad 0)), (1, .int x1)]) hx hb dX12_call_43 hl (by decide) rfl (fun ls hl => ?_)
    refine lv_aload_n hx hb dX12_call_45 rfl (lv_at hl 3 rfl) ?_
    refine lv_aload_n hx hb dX12_call_46 rfl (lv_at hl 3 rfl) ?_
    refine lv_iload hx hb dX12_call_47 (lv_at hl 0 rfl) ?_
    refine cVIw (q0 := 0) kmX12_260 hC hw (m_X12_car l D cI cC cZ cJ ad x_29 g k h) rfl rfl ⟨by decide, by decide⟩ rfl rfl rfl hl.1 (Nat.le_of_ble_eq_true rfl) dX12_call_49 ⟨Nat.zero_le _, Nat.zero_le _⟩ rfl ?_
    intro r_32 u H locs h hw
    obtain ⟨g_30, k_31⟩ := u
    dsimp only at h hw
    refine cVIw (q0 := 0) kmX12_257 hC hw (m_X12_parts l D cI cC cZ cJ ad n r_32 g_30 k_31 h) rfl rfl ⟨by decide, by decide⟩ rfl rfl rfl hl.1 (Nat.le_of_ble_eq_true rfl) dX12_call_52 ⟨Nat.zero_le _, Nat.zero_le _⟩ rfl ?_
    intro r_35 u H locs h hw
    obtain ⟨g_33, k_34⟩ := u
    dsimp only at h hw
    refine lv_iload_n hx hb dX12_call_55 rfl (lv_at hl 1 rfl) ?_
    refine lv_icmp_eq (tgt := 65) hx hb dX12_call_56 (by decide) (fun c_36 => ?_) (fun c_36 => ?_)
    · have h := h.1 c_36
      refine lv_aload_n hx hb dX12_call_65 rfl (lv_at hl 3 rfl) ?_
      refine gt (v := .int (g_33 0 20)) kfX12_308 0 hC hw rfl rfl dX12_call_66 ?_
      refine lv_bipush (v := (30 : Int32)) hx hb dX12_call_69 (by decide) ?_
      refine lv_icmp_ne (tgt := 80) hx hb dX12_call_71 (by decide) (fun c_37 => ?_) (fun c_37 => ?_)
      · have h := h.1 c_37
        refine lv_aload_n hx hb dX12_call_80 rfl (lv_at hl 3 rfl) ?_
        refine lv_iconst (v := (2 : Int32)) hx hb dX12_call_81 (by decide) ?_
        refine lv_iload_n hx hb dX12_call_82 rfl (lv_at hl 1 rfl) ?_
        refine lv_iadd hx hb dX12_call_83 ?_
        refine cVIw (q0 := 0) kmX12_329 hC hw (m_X12_room l D cI cC cZ cJ ad n ((2 : Int32) + x_25) g_33 k_34 h) rfl rfl ⟨by decide, by decide⟩ rfl rfl rfl hl.1 (Nat.le_of_ble_eq_true rfl) dX12_call_84 ⟨Nat.zero_le _, Nat.zero_le _⟩ rfl ?_
        intro r_40 u H locs h hw
        obtain ⟨g_38, k_39⟩ := u
        dsimp only at h hw
        refine lv_if_ne (tgt := 91) hx hb dX12_call_87 (by decide) (fun c_41 => ?_) (fun c_41 => ?_)
        · have h := h.1 c_41
          refine lv_aload_n hx hb dX12_call_91 rfl (lv_at hl 3 rfl) ?_
          refine lv_iconst (v := (4 : Int32)) hx hb dX12_call_92 (by decide) ?_
          refine lv_iconst (v := (2 : Int32)) hx hb dX12_call_93 (by decide) ?_
          refine lv_iload_n hx hb dX12_call_94 rfl (lv_at hl 1 rfl) ?_
          refine lv_iadd hx hb dX12_call_95 ?_
          refine cVIw (q0 := 0) kmX12_332 hC hw (m_X12_make l D cI cC cZ cJ ad n (4 : Int32) ((2 : Int32) + x_25) g_38 k_39 h) rfl rfl ⟨by decide, by decide⟩ rfl rfl rfl hl.1 (Nat.le_of_ble_eq_true rfl) dX12_call_96 ⟨Nat.zero_le _, Nat.zero_le _⟩ rfl ?_
          intro r_44 u H locs h hw
          obtain ⟨g_42, k_43⟩ := u
          dsimp only at h hw
          refine lv_istore (lv' := [(5, .int r_44), (4, .int x_29), (3, .int x_25), (2, .int x_24), (0, .ref (ad 0)), (1, .int x1)]) hx hb dX12_call_99 hl (by decide) rfl (fun ls hl => ?_)
          refine lv_aload_n hx hb dX12_call_101 rfl (lv_at hl 4 rfl) ?_
          refine gt (v := .ref (ad 12)) kfX12_107 0 hC hw rfl rfl dX12_call_102 ?_
          refine lv_bipush (v := (8 : Int32)) hx hb dX12_call_105 (by decide) ?_
          refine lv_iload hx hb dX12_call_107 (lv_at hl 0 rfl) ?_
          refine lv_imul hx hb dX12_call_109 ?_
          refine lv_aload_n hx hb dX12_call_110 rfl (lv_at hl 4 rfl) ?_
          refine gt (v := .ref (ad 12)) kfX12_107 0 hC hw rfl rfl dX12_call_111 ?_
          refine lv_bipush (v := (8 : Int32)) hx hb dX12_call_114 (by decide) ?_
          refine lv_iload_n hx hb dX12_call_116 rfl (lv_at hl 3 rfl) ?_
          refine cSI ksX12_180 hC (m_X12_load l x_24 h) rfl rfl ⟨by decide, by decide⟩ rfl hl.1 (Nat.le_of_ble_eq_true rfl) dX12_call_117 ⟨Nat.zero_le _, Nat.zero_le _⟩ rfl ?_
          intro r_45 h
          refine lv_imul hx hb dX12_call_120 ?_
          refine lv_iconst (v := (1 : Int32)) hx hb dX12_call_121 (by decide) ?_
          refine lv_iadd hx hb dX12_call_122 ?_
          refine ldI 12 0 hC hw rfl rfl h.1 dX12_call_123 ?_
          have h := h.2
          refine swM_12 h.1 hC hw dX12_call_124 (fun H locs g_46 eg_46 hw => ?_)
          have h := h.2 g_46 eg_46
          refine lv_aload_n hx hb dX12_call_125 rfl (lv_at hl 4 rfl) ?_
          refine gt (v := .ref (ad 12)) kfX12_107 0 hC hw rfl rfl dX12_call_126 ?_
          refine lv_bipush (v := (8 : Int32)) hx hb dX12_call_129 (by decide) ?_
          refine lv_iload hx hb dX12_call_131 (lv_at hl 0 rfl) ?_
          refine lv_imul hx hb dX12_call_133 ?_
          refine lv_iconst (v := (1 : Int32)) hx hb dX12_call_134 (by decide) ?_
          refine lv_iadd hx hb dX12_call_135 ?_
          refine lv_aload_n hx hb dX12_call_136 rfl (lv_at hl 4 rfl) ?_
          refine lv_iload hx hb dX12_call_137 (lv_at hl 1 rfl) ?_
          refine cVIw (q0 := 0) kmX12_260 hC hw (m_X12_car l D cI cC cZ cJ ad x_29 g_46 k_43 h) rfl rfl ⟨by decide, by decide⟩ rfl rfl rfl hl.1 (Nat.le_of_ble_eq_true rfl) dX12_call_139 ⟨Nat.zero_le _, Nat.zero_le _⟩ rfl ?_
          intro r_49 u H locs h hw
          obtain ⟨g_47, k_48⟩ := u
          dsimp only at h hw
          refine swM_12 h.1 hC hw dX12_call_142 (fun H locs g_50 eg_50 hw => ?_)
          have h := h.2 g_50 eg_50
          refine lv_iconst (v := (0 : Int32)) hx hb dX12_call_143 (by decide) ?_
          refine lv_topi (fun x_51 ex_51 => ?_)
          have h := h x_51 ex_51
          refine lv_istore (lv' := [(6, .int x_51), (5, .int r_44), (4, .int x_29), (3, .int x_25), (2, .int x_24), (0, .ref (ad 0)), (1, .int x1)]) hx hb dX12_call_144 hl (by decide) rfl (fun ls hl => ?_)
          exact w_146 n x1 x_25 x_29 r_44 x_51 g_50 k_48 _ _ _ h hw (lv_sub hl [5, 6, 3, 2, 1, 0] rfl)
        · have h := h.2 c_41
          exact rtV (wf := (fun u : St × StL => (wM ad cI cC cZ cJ u.1 u.2))) (g_38, k_39) hC hr hlk hw h dX12_call_90
      · have h := h.2 c_37
        refine lv_aload_n hx hb dX12_call_74 rfl (lv_at hl 3 rfl) ?_
        refine lv_iconst (v := (2 : Int32)) hx hb dX12_call_75 (by decide) ?_
        refine pwM_42 kpX12_299 hC hw dX12_call_76 (fun H locs g_52 eg_52 hw => ?_)
        have h := h g_52 eg_52
        exact rtV (wf := (fun u : St × StL => (wM ad cI cC cZ cJ u.1 u.2))) (g_52, k_34) hC hr hlk hw h dX12_call_79
    · have h := h.2 c_36
      refine lv_aload_n hx hb dX12_call_59 rfl (lv_at hl 3 rfl) ?_
      refine lv_iconst (v := (4 : Int32)) hx hb dX12_call_60 (by decide) ?_
      refine pwM_42 kpX12_299 hC hw dX12_call_61 (fun H locs g_53 eg_53 hw => ?_)
      have h := h g_53 eg_53
      exact rtV (wf := (fun u : St × StL => (wM ad cI cC cZ cJ u.1 u.2))) (g_53, k_34) hC hr hlk hw h dX12_call_64
  · have h := h.2 c_27
    refine lv_aload_n hx hb dX12_call_25 rfl (lv_at hl 2 rfl) ?_
    refine lv_iconst (v := (4 : Int32)) hx hb dX12_call_26 (by decide) ?_
    refine pwM_42 kpX12_299 hC hw dX12_call_27 (fun H locs g_54 eg_54 hw => ?_)
    have h := h g_54 eg_54
    exact rtV (wf := (fun u : St × StL => (wM ad cI cC cZ cJ u.1 u.2))) (g_54, k) hC hr hlk hw h dX12_call_30
