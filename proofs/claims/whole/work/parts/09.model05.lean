def V_X12_cancel (g : St) (k : StL) (post : Int32 → St → StL → Prop) : Prop := ∀ g_1 : St, g_1 = us g 0 (0 : Int32) → ∀ x_2 : Int32, x_2 = (g_1 0 7) → ∀ g_3 : St, g_3 = us g_1 7 (0 : Int32) → ∀ g_4 : St, g_4 = us g_3 8 (0 : Int32) → post x_2 g_4 k
abbrev RM_X12_cancel : Room := { frames := 0, cells := 0, slots := 0, locals := 0 }
set_option maxHeartbeats 4000000 in
set_option maxRecDepth 100000 in
theorem m_X12_cancel (l : Launch) (D : va_G) (cI cC cZ cJ : ClassId) (ad : Nat → Nat) (g : St) (k : StL) {post : Int32 → St → StL → Prop} (h : V_X12_cancel g k post) : MetI l yX12_cancel cX12_cancel 2 .int RM_X12_cancel D (ty4 cI cC cZ cJ) (wM ad cI cC cZ cJ g k) [.ref (ad 0)] (fun u : St × StL => (wM ad cI cC cZ cJ u.1 u.2)) (fun (r : Int32) (u : St × StL) => post r u.1 u.2) := by
  refine mkI (by decide) (Nat.le_of_ble_eq_true rfl) ?_
  intro p e s m args below meth c A ls hC hr hlk hw hl
  have hx := hC.1
  have hb := hC.2.1
  have hl : lv_has ls 2 [(0, .ref (ad 0))] := hl
  unfold V_X12_cancel at h
  refine lv_aload_n hx hb dX12_cancel_0 rfl (lv_at hl 0 rfl) ?_
  refine lv_iconst (v := (0 : Int32)) hx hb dX12_cancel_1 (by decide) ?_
  refine pwM_0 kpX12_175 hC hw dX12_cancel_2 (fun H locs g_1 eg_1 hw => ?_)
  have h := h g_1 eg_1
  refine lv_aload_n hx hb dX12_cancel_5 rfl (lv_at hl 0 rfl) ?_
  refine gt (v := .int (g_1 0 7)) kfX12_191 0 hC hw rfl rfl dX12_cancel_6 ?_
  refine lv_topi (fun x_2 ex_2 => ?_)
  have h := h x_2 ex_2
  refine lv_istore_n (lv' := [(1, .int x_2), (0, .ref (ad 0))]) hx hb dX12_cancel_9 rfl hl (by decide) rfl (fun ls hl => ?_)
  refine lv_aload_n hx hb dX12_cancel_10 rfl (lv_at hl 1 rfl) ?_
  refine lv_iconst (v := (0 : Int32)) hx hb dX12_cancel_11 (by decide) ?_
  refine pwM_23 kpX12_191 hC hw dX12_cancel_12 (fun H locs g_3 eg_3 hw => ?_)
  have h := h g_3 eg_3
  refine lv_aload_n hx hb dX12_cancel_15 rfl (lv_at hl 1 rfl) ?_
  refine lv_iconst (v := (0 : Int32)) hx hb dX12_cancel_16 (by decide) ?_
  refine pwM_24 kpX12_201 hC hw dX12_cancel_17 (fun H locs g_4 eg_4 hw => ?_)
  have h := h g_4 eg_4
  refine lv_iload_n hx hb dX12_cancel_20 rfl (lv_at hl 0 rfl) ?_
  exact rtI (wf := (fun u : St × StL => (wM ad cI cC cZ cJ u.1 u.2))) (g_4, k) hC hr hlk hw rfl h dX12_cancel_21
def V_X12_take_37 (post : Int32 → St → StL → Prop) : Nat → Int32 → Int32 → St → StL → Prop
  | 0, _, _, _, _ => False
  | n + 1, x1, x2, g, k => (((g 0 24) ≤ x2 → post x1 g k) ∧ (¬ (g 0 24) ≤ x2 → (vp_in (x2 + (1 : Int32)) 200 ∧ (vp_in x2 200 ∧ ∀ g_2 : St, g_2 = up g 23 x2.toNatClampNeg (vp_nar .char (g 23 (x2 + (1 : Int32)).toNatClampNeg)) → ∀ x_3 : Int32, x_3 = x2 + (1 : Int32) → V_X12_take_37 post n x1 x_3 g_2 k))))
def V_X12_take (n : Nat) (g : St) (k : StL) (post : Int32 → St → StL → Prop) : Prop := ∀ g_4 : St, g_4 = us g 0 (0 : Int32) → ((¬ (g_4 0 24) = 0 → (vp_in (0 : Int32) 200 ∧ ∀ x_6 : Int32, x_6 = (g_4 23 (0 : Int32).toNatClampNeg) → ∀ g_7 : St, g_7 = us g_4 24 ((g_4 0 24) - (1 : Int32)) → ∀ x_8 : Int32, x_8 = (0 : Int32) → V_X12_take_37 post n x_6 x_8 g_7 k)) ∧ ((g_4 0 24) = 0 → V_X12_raise (1 : Int32) g_4 k (fun r_11 g_9 k_10 => post r_11 g_9 k_10)))
abbrev RM_X12_take : Room := { frames := 1, cells := 0, slots := 0, locals := 21 }
set_option maxHeartbeats 4000000 in
set_option maxRecDepth 100000 in
theorem m_X12_take (l : Launch) (D : va_G) (cI cC cZ cJ : ClassId) (ad : Nat → Nat) (n : Nat) (g : St) (k : StL) {post : Int32 → St → StL → Prop} (h : V_X12_take n g k post) : MetI l yX12_take cX12_take 3 .int RM_X12_take D (ty4 cI cC cZ cJ) (wM ad cI cC cZ cJ g k) [.ref (ad 0)] (fun u : St × StL => (wM ad cI cC cZ cJ u.1 u.2)) (fun (r : Int32) (u : St × StL) => post r u.1 u.2) := by
  refine mkI (by decide) (Nat.le_of_ble_eq_true rfl) ?_
  intro p e s m args below meth c A ls hC hr hlk hw hl
  have hx := hC.1
  have hb := hC.2.1
  have hl : lv_has ls 3 [(0, .ref (ad 0))] := hl
  have w_37 : ∀ (n : Nat) (x1 : Int32) (x2 : Int32) (g : St) (k : StL) (H : Heap) (locs : List Loc) (ls : Array Slot), V_X12_take_37 post n x1 x2 g k → Wd D (ty4 cI cC cZ cJ) A s (wM ad cI cC cZ cJ g k) H locs → lv_has ls 3 [(0, .ref (ad 0)), (1, .int x1), (2, .int x2)] → W p l e RM_X12_take s m args below meth c H locs 0 0 (QI below D (ty4 cI cC cZ cJ) A args s (fun u : St × StL => (wM ad cI cC cZ cJ u.1 u.2)) (fun (r : Int32) (u : St × StL) => post r u.1 u.2)) (F0 m 37 ls []) := by
    intro n
    induction n with
    | zero =>
      intro x1 x2 g k H locs ls h
      exact False.elim h
    | succ n ih =>
      intro x1 x2 g k H locs ls h hw hl
      rw [V_X12_take_37] at h
      refine lv_iload_n hx hb dX12_take_37 rfl (lv_at hl 2 rfl) ?_
      refine lv_aload_n hx hb dX12_take_38 rfl (lv_at hl 0 rfl) ?_
      refine gt (v := .int (g 0 24)) kfX12_421 0 hC hw rfl rfl dX12_take_39 ?_
      refine lv_icmp_ge (tgt := 65) hx hb dX12_take_42 (by decide) (fun c_1 => ?_) (fun c_1 => ?_)
      · have h := h.1 c_1
        refine lv_iload_n hx hb dX12_take_65 rfl (lv_at hl 1 rfl) ?_
        exact rtI (wf := (fun u : St × StL => (wM ad cI cC cZ cJ u.1 u.2))) (g, k) hC hr hlk hw rfl h dX12_take_66
      · have h := h.2 c_1
        refine lv_aload_n hx hb dX12_take_45 rfl (lv_at hl 0 rfl) ?_
        refine gt (v := .ref (ad 25)) kfX12_146 0 hC hw rfl rfl dX12_take_46 ?_
        refine lv_iload_n hx hb dX12_take_49 rfl (lv_at hl 2 rfl) ?_
        refine lv_aload_n hx hb dX12_take_50 rfl (lv_at hl 0 rfl) ?_
        refine gt (v := .ref (ad 25)) kfX12_146 0 hC hw rfl rfl dX12_take_51 ?_
        refine lv_iload_n hx hb dX12_take_54 rfl (lv_at hl 2 rfl) ?_
        refine lv_iconst (v := (1 : Int32)) hx hb dX12_take_55 (by decide) ?_
        refine lv_iadd hx hb dX12_take_56 ?_
        refine ldC 25 1 hC hw rfl rfl h.1 dX12_take_57 ?_
        have h := h.2
        refine swM_25 h.1 hC hw dX12_take_58 (fun H locs g_2 eg_2 hw => ?_)
        have h := h.2 g_2 eg_2
        obtain ⟨x_3, ex_3⟩ : ∃ y : Int32, y = x2 + (1 : Int32) := ⟨_, rfl⟩
        have h := h x_3 ex_3
        refine lv_iinc (v := x_3) (lv' := [(2, .int x_3), (0, .ref (ad 0)), (1, .int x1)]) hx hb dX12_take_59 hl (k := 2) rfl (by rw [ex_3]; rfl) (by decide) rfl (fun ls hl => ?_)
        refine lv_goto (tgt := 37) hx hb dX12_take_62 (by decide) ?_
        exact ih x1 x_3 g_2 k _ _ _ h hw (lv_sub hl [1, 2, 0] rfl)
  unfold V_X12_take at h
  refine lv_aload_n hx hb dX12_take_0 rfl (lv_at hl 0 rfl) ?_
  refine lv_iconst (v := (0 : Int32)) hx hb dX12_take_1 (by decide) ?_
  refine pwM_0 kpX12_175 hC hw dX12_take_2 (fun H locs g_4 eg_4 hw => ?_)
  have h := h g_4 eg_4
  refine lv_aload_n hx hb dX12_take_5 rfl (lv_at hl 0 rfl) ?_
  refine gt (v := .int (g_4 0 24)) kfX12_421 0 hC hw rfl rfl dX12_take_6 ?_
  refine lv_if_ne (tgt := 18) hx hb dX12_take_9 (by decide) (fun c_5 => ?_) (fun c_5 => ?_)
  · have h := h.1 c_5
    refine lv_aload_n hx hb dX12_take_18 rfl (lv_at hl 0 rfl) ?_
    refine gt (v := .ref (ad 25)) kfX12_146 0 hC hw rfl rfl dX12_take_19 ?_
    refine lv_iconst (v := (0 : Int32)) hx hb dX12_take_22 (by decide) ?_
    refine ldC 25 1 hC hw rfl rfl h.1 dX12_take_23 ?_
    have h := h.2
    refine lv_topi (fun x_6 ex_6 => ?_)
    have h := h x_6 ex_6
    refine lv_istore_n (lv' := [(1, .int x_6), (0, .ref (ad 0))]) hx hb dX12_take_24 rfl hl (by decide) rfl (fun ls hl => ?_)
    refine lv_aload_n hx hb dX12_take_25 rfl (lv_at hl 1 rfl) ?_
    refine lv_dup hx hb dX12_take_26 rfl ?_
    refine gt (v := .int (g_4 0 24)) kfX12_421 0 hC hw rfl rfl dX12_take_27 ?_
    refine lv_iconst (v := (1 : Int32)) hx hb dX12_take_30 (by decide) ?_
    refine lv_isub hx hb dX12_take_31 ?_
    refine pwM_50 kpX12_421 hC hw dX12_take_32 (fun H locs g_7 eg_7 hw => ?_)
    have h := h g_7 eg_7
    refine lv_iconst (v := (0 : Int32)) hx hb dX12_take_35 (by decide) ?_
    refine lv_topi (fun x_8 ex_8 => ?_)
    have h := h x_8 ex_8
    refine lv_istore_n (lv' := [(2, .int x_8), (1, .int x_6), (0, .ref (ad 0))]) hx hb dX12_take_36 rfl hl (by decide) rfl (fun ls hl => ?_)
    exact w_37 n x_6 x_8 g_7 k _ _ _ h hw (lv_sub hl [2, 1, 0] rfl)
  · have h := h.2 c_5
    refine lv_aload_n hx hb dX12_take_12 rfl (lv_at hl 0 rfl) ?_
    refine lv_iconst (v := (1 : Int32)) hx hb dX12_take_13 (by decide) ?_
    refine cVIw (q0 := 0) kmX12_230 hC hw (m_X12_raise l D cI cC cZ cJ ad (1 : Int32) g_4 k h) rfl rfl ⟨by decide, by decide⟩ rfl rfl rfl hl.1 (Nat.le_of_ble_eq_true rfl) dX12_take_14 ⟨Nat.zero_le _, Nat.zero_le _⟩ rfl ?_
    intro r_11 u H locs h hw
    obtain ⟨g_9, k_10⟩ := u
    dsimp only at h hw
    exact rtI (wf := (fun u : St × StL => (wM ad cI cC cZ cJ u.1 u.2))) (g_9, k_10) hC hr hlk hw rfl h dX12_take_17
def V_X12_give (x1 : Int32) (g : St) (k : StL) (post : Int32 → St → StL → Prop) : Prop := ∀ g_1 : St, g_1 = us g 0 (0 : Int32) → ((x1 < (-32768 : Int32) → V_X12_raise (1 : Int32) g_1 k (fun r_5 g_3 k_4 => post r_5 g_3 k_4)) ∧ (¬ x1 < (-32768 : Int32) → ((x1 ≤ (32767 : Int32) → ((¬ (g_1 0 25) = (8 : Int32) → (vp_in (g_1 0 25) 8 ∧ ∀ g_8 : St, g_8 = up g_1 24 (g_1 0 25).toNatClampNeg x1 → ∀ g_9 : St, g_9 = us g_8 25 ((g_8 0 25) + (1 : Int32)) → post (g_9 0 25) g_9 k)) ∧ ((g_1 0 25) = (8 : Int32) → V_X12_raise (2 : Int32) g_1 k (fun r_12 g_10 k_11 => post r_12 g_10 k_11)))) ∧ (¬ x1 ≤ (32767 : Int32) → V_X12_raise (1 : Int32) g_1 k (fun r_15 g_13 k_14 => post r_15 g_13 k_14)))))
abbrev RM_X12_give : Room := { frames := 1, cells := 0, slots := 0, locals := 21 }
set_option maxHeartbeats 4000000 in
set_option maxRecDepth 100000 in
theorem m_X12_give (l : Launch) (D : va_G) (cI cC cZ cJ : ClassId) (ad : Nat → Nat) (x1 : Int32) (g : St) (k : StL) {post : Int32 → St → StL → Prop} (h : V_X12_give x1 g k post) : MetI l yX12_give cX12_give 2 .int RM_X12_give D (ty4 cI cC cZ cJ) (wM ad cI cC cZ cJ g k) [.ref (ad 0), .int x1] (fun u : St × StL => (wM ad cI cC cZ cJ u.1 u.2)) (fun (r : Int32) (u : St × StL) => post r u.1 u.2) := by
  refine mkI (by decide) (Nat.le_of_ble_eq_true rfl) ?_
  intro p e s m args below meth c A ls hC hr hlk hw hl
  have hx := hC.1
  have hb := hC.2.1
  have hl : lv_has ls 2 [(0, .ref (ad 0)), (1, .int x1)] := hl
  unfold V_X12_give at h
  refine lv_aload_n hx hb dX12_give_0 rfl (lv_at hl 0 rfl) ?_
  refine lv_iconst (v := (0 : Int32)) hx hb dX12_give_1 (by decide) ?_
  refine pwM_0 kpX12_175 hC hw dX12_give_2 (fun H locs g_1 eg_1 hw => ?_)
  have h := h g_1 eg_1
  refine lv_iload_n hx hb dX12_give_5 rfl (lv_at hl 1 rfl) ?_
  refine lv_sipush (v := (-32768 : Int32)) hx hb dX12_give_6 (by decide) ?_
  refine lv_icmp_lt (tgt := 19) hx hb dX12_give_9 (by decide) (fun c_2 => ?_) (fun c_2 => ?_)
  · have h := h.1 c_2
    refine lv_aload_n hx hb dX12_give_19 rfl (lv_at hl 0 rfl) ?_
    refine lv_iconst (v := (1 : Int32)) hx hb dX12_give_20 (by decide) ?_
    refine cVIw (q0 := 0) kmX12_230 hC hw (m_X12_raise l D cI cC cZ cJ ad (1 : Int32) g_1 k h) rfl rfl ⟨by decide, by decide⟩ rfl rfl rfl hl.1 (Nat.le_of_ble_eq_true rfl) dX12_give_21 ⟨Nat.zero_le _, Nat.zero_le _⟩ rfl ?_
    intro r_5 u H locs h hw
    obtain ⟨g_3, k_4⟩ := u
    dsimp only at h hw
    exact rtI (wf := (fun u : St × StL => (wM ad cI cC cZ cJ u.1 u.2))) (g_3, k_4) hC hr hlk hw rfl h dX12_give_24
  · have h := h.2 c_2
    refine lv_iload_n hx hb dX12_give_12 rfl (lv_at hl 1 rfl) ?_
    refine lv_sipush (v := (32767 : Int32)) hx hb dX12_give_13 (by decide) ?_
    refine lv_icmp_le (tgt := 25) hx hb dX12_give_16 (by decide) (fun c_6 => ?_) (fun c_6 => ?_)
    · have h := h.1 c_6
      refine lv_aload_n hx hb dX12_give_25 rfl (lv_at hl 0 rfl) ?_
      refine gt (v := .int (g_1 0 25)) kfX12_400 0 hC hw rfl rfl dX12_give_26 ?_
      refine lv_bipush (v := (8 : Int32)) hx hb dX12_give_29 (by decide) ?_
      refine lv_icmp_ne (tgt := 40) hx hb dX12_give_31 (by decide) (fun c_7 => ?_) (fun c_7 => ?_)
      · have h := h.1 c_7
        refine lv_aload_n hx hb dX12_give_40 rfl (lv_at hl 0 rfl) ?_
        refine gt (v := .ref (ad 26)) kfX12_150 0 hC hw rfl rfl dX12_give_41 ?_
        refine lv_aload_n hx hb dX12_give_44 rfl (lv_at hl 0 rfl) ?_
        refine gt (v := .int (g_1 0 25)) kfX12_400 0 hC hw rfl rfl dX12_give_45 ?_
        refine lv_iload_n hx hb dX12_give_48 rfl (lv_at hl 1 rfl) ?_
        refine swM_26 h.1 hC hw dX12_give_49 (fun H locs g_8 eg_8 hw => ?_)
        have h := h.2 g_8 eg_8
        refine lv_aload_n hx hb dX12_give_50 rfl (lv_at hl 0 rfl) ?_
        refine lv_dup hx hb dX12_give_51 rfl ?_
        refine gt (v := .int (g_8 0 25)) kfX12_400 0 hC hw rfl rfl dX12_give_52 ?_
        refine lv_iconst (v := (1 : Int32)) hx hb dX12_give_55 (by decide) ?_
        refine lv_iadd hx hb dX12_give_56 ?_
        refine pwM_52 kpX12_400 hC hw dX12_give_57 (fun H locs g_9 eg_9 hw => ?_)
        have h := h g_9 eg_9
        refine lv_aload_n hx hb dX12_give_60 rfl (lv_at hl 0 rfl) ?_
        refine gt (v := .int (g_9 0 25)) kfX12_400 0 hC hw rfl rfl dX12_give_61 ?_
        exact rtI (wf := (fun u : St × StL => (wM ad cI cC cZ cJ u.1 u.2))) (g_9, k) hC hr hlk hw rfl h dX12_give_64
      · have h := h.2 c_7
        refine lv_aload_n hx hb dX12_give_34 rfl (lv_at hl 0 rfl) ?_
        refine lv_iconst (v := (2 : Int32)) hx hb dX12_give_35 (by decide) ?_
        refine cVIw (q0 := 0) kmX12_230 hC hw (m_X12_raise l D cI cC cZ cJ ad (2 : Int32) g_1 k h) rfl rfl ⟨by decide, by decide⟩ rfl rfl rfl hl.1 (Nat.le_of_ble_eq_true rfl) dX12_give_36 ⟨Nat.zero_le _, Nat.zero_le _⟩ rfl ?_
        intro r_12 u H locs h hw
        obtain ⟨g_10, k_11⟩ := u
        dsimp only at h hw
        exact rtI (wf := (fun u : St × StL => (wM ad cI cC cZ cJ u.1 u.2))) (g_10, k_11) hC hr hlk hw rfl h dX12_give_39
    · have h := h.2 c_6
      refine lv_aload_n hx hb dX12_give_19 rfl (lv_at hl 0 rfl) ?_
      refine lv_iconst (v := (1 : Int32)) hx hb dX12_give_20 (by decide) ?_
      refine cVIw (q0 := 0) kmX12_230 hC hw (m_X12_raise l D cI cC cZ cJ ad (1 : Int32) g_1 k h) rfl rfl ⟨by decide, by decide⟩ rfl rfl rfl hl.1 (Nat.le_of_ble_eq_true rfl) dX12_give_21 ⟨Nat.zero_le _, Nat.zero_le _⟩ rfl ?_
      intro r_15 u H locs h hw
      obtain ⟨g_13, k_14⟩ := u
      dsimp only at h hw
      exact rtI (wf := (fun u : St × StL => (wM ad cI cC cZ cJ u.1 u.2))) (g_13, k_14) hC hr hlk hw rfl h dX12_give_24
def V_X12_collect (n : Nat) (g : St) (k : StL) (post : Int32 → St → StL → Prop) : Prop := ∀ g_1 : St, g_1 = us g 0 (0 : Int32) → V_X12_gather n  g_1 k (fun g_2 k_3 => post (g_2 0 4) g_2 k_3)
abbrev RM_X12_collect : Room := { frames := 4, cells := 0, slots := 0, locals := 88 }
set_option maxHeartbeats 4000000 in
set_option maxRecDepth 100000 in
theorem m_X12_collect (l : Launch) (D : va_G) (cI cC cZ cJ : ClassId) (ad : Nat → Nat) (n : Nat) (g : St) (k : StL) {post : Int32 → St → StL → Prop} (h : V_X12_collect n g k post) : MetI l yX12_collect cX12_collect 1 .int RM_X12_collect D (ty4 cI cC cZ cJ) (wM ad cI cC cZ cJ g k) [.ref (ad 0)] (fun u : St × StL => (wM ad cI cC cZ cJ u.1 u.2)) (fun (r : Int32) (u : St × StL) => post r u.1 u.2) := by
  refine mkI (by decide) (Nat.le_of_ble_eq_true rfl) ?_
  intro p e s m args below meth c A ls hC hr hlk hw hl
  have hx := hC.1
  have hb := hC.2.1
  have hl : lv_has ls 1 [(0, .ref (ad 0))] := hl
  unfold V_X12_collect at h
  refine lv_aload_n hx hb dX12_collect_0 rfl (lv_at hl 0 rfl) ?_
  refine lv_iconst (v := (0 : Int32)) hx hb dX12_collect_1 (by decide) ?_
  refine pwM_0 kpX12_175 hC hw dX12_collect_2 (fun H locs g_1 eg_1 hw => ?_)
  have h := h g_1 eg_1
  refine lv_aload_n hx hb dX12_collect_5 rfl (lv_at hl 0 rfl) ?_
  refine cVVw (q0 := 0) kmX12_296 hC hw (m_X12_gather l D cI cC cZ cJ ad n  g_1 k h) rfl rfl ⟨by decide, by decide⟩ rfl rfl rfl hl.1 (Nat.le_of_ble_eq_true rfl) dX12_collect_6 ⟨Nat.zero_le _, Nat.zero_le _⟩ rfl ?_
  intro u H locs h hw
  obtain ⟨g_2, k_3⟩ := u
  dsimp only at h hw
  refine lv_aload_n hx hb dX12_collect_9 rfl (lv_at hl 0 rfl) ?_
  refine gt (v := .int (g_2 0 4)) kfX12_287 0 hC hw rfl rfl dX12_collect_10 ?_
  exact rtI (wf := (fun u : St × StL => (wM ad cI cC cZ cJ u.1 u.2))) (g_2, k_3) hC hr hlk hw rfl h dX12_collect_13
def V_X12_kind (x1 : Int32) (g : St) (k : StL) (post : Int32 → St → StL → Prop) : Prop := ∀ g_1 : St, g_1 = us g 0 (0 : Int32) → ((x1 < 0 → V_X12_raise (1 : Int32) g_1 k (fun r_5 g_3 k_4 => post r_5 g_3 k_4)) ∧ (¬ x1 < 0 → ((x1 < (g_1 0 2) → (vp_in x1 40 ∧ (((g_1 2 x1.toNatClampNeg) = 0 → post (0 : Int32) g_1 k) ∧ (¬ (g_1 2 x1.toNatClampNeg) = 0 → (vp_in x1 40 ∧ V_X12_sortOf (g_1 3 x1.toNatClampNeg) (fun r_8 => post r_8 g_1 k)))))) ∧ (¬ x1 < (g_1 0 2) → V_X12_raise (1 : Int32) g_1 k (fun r_11 g_9 k_10 => post r_11 g_9 k_10)))))
abbrev RM_X12_kind : Room := { frames := 1, cells := 0, slots := 0, locals := 21 }
set_option maxHeartbeats 4000000 in
set_option maxRecDepth 100000 in
theorem m_X12_kind (l : Launch) (D : va_G) (cI cC cZ cJ : ClassId) (ad : Nat → Nat) (x1 : Int32) (g : St) (k : StL) {post : Int32 → St → StL → Prop} (h : V_X12_kind x1 g k post) : MetI l yX12_kind cX12_kind 2 .int RM_X12_kind D (ty4 cI cC cZ cJ) (wM ad cI cC cZ cJ g k) [.ref (ad 0), .int x1] (fun u : St × StL => (wM ad cI cC cZ cJ u.1 u.2)) (fun (r : Int32) (u : St × StL) => post r u.1 u.2) := by
  refine mkI (by decide) (Nat.le_of_ble_eq_true rfl) ?_
  intro p e s m args below meth c A ls hC hr hlk hw hl
  have hx := hC.1
  have hb := hC.2.1
  have hl : lv_has ls 2 [(0, .ref (ad 0)), (1, .int x1)] := hl
  unfold V_X12_kind at h
  refine lv_aload_n hx hb dX12_kind_0 rfl (lv_at hl 0 rfl) ?_
  refine lv_iconst (v := (0 : Int32)) hx hb dX12_kind_1 (by decide) ?_
  refine pwM_0 kpX12_175 hC hw dX12_kind_2 (fun H locs g_1 eg_1 hw => ?_)
  have h := h g_1 eg_1
  refine lv_iload_n hx hb dX12_kind_5 rfl (lv_at hl 1 rfl) ?_
  refine lv_if_lt (tgt := 17) hx hb dX12_kind_6 (by decide) (fun c_2 => ?_) (fun c_2 => ?_)
  · have h := h.1 c_2
    refine lv_aload_n hx hb dX12_kind_17 rfl (lv_at hl 0 rfl) ?_
    refine lv_iconst (v := (1 : Int32)) hx hb dX12_kind_18 (by decide) ?_
    refine cVIw (q0 := 0) kmX12_230 hC hw (m_X12_raise l D cI cC cZ cJ ad (1 : Int32) g_1 k h) rfl rfl ⟨by decide, by decide⟩ rfl rfl rfl hl.1 (Nat.le_of_ble_eq_true rfl) dX12_kind_19 ⟨Nat.zero_le _, Nat.zero_le _⟩ rfl ?_
    intro r_5 u H locs h hw
    obtain ⟨g_3, k_4⟩ := u
    dsimp only at h hw
    exact rtI (wf := (fun u : St × StL => (wM ad cI cC cZ cJ u.1 u.2))) (g_3, k_4) hC hr hlk hw rfl h dX12_kind_22
  · have h := h.2 c_2
    refine lv_iload_n hx hb dX12_kind_9 rfl (lv_at hl 1 rfl) ?_
    refine lv_aload_n hx hb dX12_kind_10 rfl (lv_at hl 0 rfl) ?_
    refine gt (v := .int (g_1 0 2)) kfX12_185 0 hC hw rfl rfl dX12_kind_11 ?_
    refine lv_icmp_lt (tgt := 23) hx hb dX12_kind_14 (by decide) (fun c_6 => ?_) (fun c_6 => ?_)
    · have h := h.1 c_6
      refine lv_aload_n hx hb dX12_kind_23 rfl (lv_at hl 0 rfl) ?_
      refine gt (v := .ref (ad 3)) kfX12_17 0 hC hw rfl rfl dX12_kind_24 ?_
      refine lv_iload_n hx hb dX12_kind_27 rfl (lv_at hl 1 rfl) ?_
      refine ldZ 3 2 hC hw rfl rfl h.1 dX12_kind_28 ?_
      have h := h.2
      refine lv_if_eq (tgt := 44) hx hb dX12_kind_29 (by decide) (fun c_7 => ?_) (fun c_7 => ?_)
      · have h := h.1 c_7
        refine lv_iconst (v := (0 : Int32)) hx hb dX12_kind_44 (by decide) ?_
        exact rtI (wf := (fun u : St × StL => (wM ad cI cC cZ cJ u.1 u.2))) (g_1, k) hC hr hlk hw rfl h dX12_kind_45
      · have h := h.2 c_7
        refine lv_aload_n hx hb dX12_kind_32 rfl (lv_at hl 0 rfl) ?_
        refine gt (v := .ref (ad 4)) kfX12_21 0 hC hw rfl rfl dX12_kind_33 ?_
        refine lv_iload_n hx hb dX12_kind_36 rfl (lv_at hl 1 rfl) ?_
        refine ldI 4 0 hC hw rfl rfl h.1 dX12_kind_37 ?_
        have h := h.2
        refine cSI ksX12_254 hC (m_X12_sortOf l (g_1 3 x1.toNatClampNeg) h) rfl rfl ⟨by decide, by decide⟩ rfl hl.1 (Nat.le_of_ble_eq_true rfl) dX12_kind_38 ⟨Nat.zero_le _, Nat.zero_le _⟩ rfl ?_
        intro r_8 h
        refine lv_goto (tgt := 45) hx hb dX12_kind_41 (by decide) ?_
        exact rtI (wf := (fun u : St × StL => (wM ad cI cC cZ cJ u.1 u.2))) (g_1, k) hC hr hlk hw rfl h dX12_kind_45
    · have h := h.2 c_6
      refine lv_aload_n hx hb dX12_kind_17 rfl (lv_at hl 0 rfl) ?_
      refine lv_iconst (v := (1 : Int32)) hx hb dX12_kind_18 (by decide) ?_
      refine cVIw (q0 := 0) kmX12_230 hC hw (m_X12_raise l D cI cC cZ cJ ad (1 : Int32) g_1 k h) rfl rfl ⟨by decide, by decide⟩ rfl rfl rfl hl.1 (Nat.le_of_ble_eq_true rfl) dX12_kind_19 ⟨Nat.zero_le _, Nat.zero_le _⟩ rfl ?_
      intro r_11 u H locs h hw
      obtain ⟨g_9, k_10⟩ := u
      dsimp only at h hw
      exact rtI (wf := (fun u : St × StL => (wM ad cI cC cZ cJ u.1 u.2))) (g_9, k_10) hC hr hlk hw rfl h dX12_kind_22
def V_X12_number (x1 : Int32) (g : St) (k : StL) (post : Int32 → St → StL → Prop) : Prop := ∀ g_1 : St, g_1 = us g 0 (0 : Int32) → ((x1 < 0 → V_X12_raise (1 : Int32) g_1 k (fun r_5 g_3 k_4 => post r_5 g_3 k_4)) ∧ (¬ x1 < 0 → ((x1 < (g_1 0 2) → (vp_in x1 40 ∧ ∀ x_7 : Int32, x_7 = (g_1 3 x1.toNatClampNeg) → (vp_in x1 40 ∧ ((¬ (g_1 2 x1.toNatClampNeg) = 0 → V_X12_sortOf x_7 (fun r_9 => ((¬ r_9 = (2 : Int32) → V_X12_sortOf x_7 (fun r_11 => ((¬ r_11 = (3 : Int32) → V_X12_sortOf x_7 (fun r_13 => ((¬ r_13 = (5 : Int32) → V_X12_raise (2 : Int32) g_1 k (fun r_17 g_15 k_16 => post r_17 g_15 k_16)) ∧ (r_13 = (5 : Int32) → V_X12_load x_7 (fun r_18 => (vp_in r_18 168 ∧ post ((g_1 9 r_18.toNatClampNeg) - (1 : Int32)) g_1 k)))))) ∧ (r_11 = (3 : Int32) → V_X12_load x_7 (fun r_19 => post r_19 g_1 k))))) ∧ (r_9 = (2 : Int32) → V_X12_amount x_7 (fun r_20 => post r_20 g_1 k))))) ∧ ((g_1 2 x1.toNatClampNeg) = 0 → V_X12_raise (2 : Int32) g_1 k (fun r_23 g_21 k_22 => post r_23 g_21 k_22)))))) ∧ (¬ x1 < (g_1 0 2) → V_X12_raise (1 : Int32) g_1 k (fun r_26 g_24 k_25 => post r_26 g_24 k_25)))))
abbrev RM_X12_number : Room := { frames := 2, cells := 0, slots := 0, locals := 40 }
set_option maxHeartbeats 4000000 in
set_option maxRecDepth 100000 in
theorem m_X12_number (l : Launch) (D : va_G) (cI cC cZ cJ : ClassId) (ad : Nat → Nat) (x1 : Int32) (g : St) (k : StL) {post : Int32 → St → StL → Prop} (h : V_X12_number x1 g k post) : MetI l yX12_number cX12_number 3 .int RM_X12_number D (ty4 cI cC cZ cJ) (wM ad cI cC cZ cJ g k) [.ref (ad 0), .int x1] (fun u : St × StL => (wM ad cI cC cZ cJ u.1 u.2)) (fun (r : Int32) (u : St × StL) => post r u.1 u.2) := by
  refine mkI (by decide) (Nat.le_of_ble_eq_true rfl) ?_
  intro p e s m args below meth c A ls hC hr hlk hw hl
  have hx := hC.1
  have hb := hC.2.1
  have hl : lv_has ls 3 [(0, .ref (ad 0)), (1, .int x1)] := hl
  unfold V_X12_number at h
  refine lv_aload_n hx hb dX12_number_0 rfl (lv_at hl 0 rfl) ?_
  refine lv_iconst (v := (0 : Int32)) hx hb dX12_number_1 (by decide) ?_
  refine pwM_0 kpX12_175 hC hw dX12_number_2 (fun H locs g_1 eg_1 hw => ?_)
  have h := h g_1 eg_1
  refine lv_iload_n hx hb dX12_number_5 rfl (lv_at hl 1 rfl) ?_
  refine lv_if_lt (tgt := 17) hx hb dX12_number_6 (by decide) (fun c_2 => ?_) (fun c_2 => ?_)
  · have h := h.1 c_2
    refine lv_aload_n hx hb dX12_number_17 rfl (lv_at hl 0 rfl) ?_
    refine lv_iconst (v := (1 : Int32)) hx hb dX12_number_18 (by decide) ?_
    refine cVIw (q0 := 0) kmX12_230 hC hw (m_X12_raise l D cI cC cZ cJ ad (1 : Int32) g_1 k h) rfl rfl ⟨by decide, by decide⟩ rfl rfl rfl hl.1 (Nat.le_of_ble_eq_true rfl) dX12_number_19 ⟨Nat.zero_le _, Nat.zero_le _⟩ rfl ?_
    intro r_5 u H locs h hw
    obtain ⟨g_3, k_4⟩ := u
    dsimp only at h hw
    exact rtI (wf := (fun u : St × StL => (wM ad cI cC cZ cJ u.1 u.2))) (g_3, k_4) hC hr hlk hw rfl h dX12_number_22
  · have h := h.2 c_2
    refine lv_iload_n hx hb dX12_number_9 rfl (lv_at hl 1 rfl) ?_
    refine lv_aload_n hx hb dX12_number_10 rfl (lv_at hl 0 rfl) ?_
    refine gt (v := .int (g_1 0 2)) kfX12_185 0 hC hw rfl rfl dX12_number_11 ?_
    refine lv_icmp_lt (tgt := 23) hx hb dX12_number_14 (by decide) (fun c_6 => ?_) (fun c_6 => ?_)
    · have h := h.1 c_6
      refine lv_aload_n hx hb dX12_number_23 rfl (lv_at hl 0 rfl) ?_
      refine gt (v := .ref (ad 4)) kfX12_21 0 hC hw rfl rfl dX12_number_24 ?_
      refine lv_iload_n hx hb dX12_number_27 rfl (lv_at hl 1 rfl) ?_
      refine ldI 4 0 hC hw rfl rfl h.1 dX12_number_28 ?_
      have h := h.2
      refine lv_topi (fun x_7 ex_7 => ?_)
      have h := h x_7 ex_7
      refine lv_istore_n (lv' := [(2, .int x_7), (0, .ref (ad 0)), (1, .int x1)]) hx hb dX12_number_29 rfl hl (by decide) rfl (fun ls hl => ?_)
      refine lv_aload_n hx hb dX12_number_30 rfl (lv_at hl 1 rfl) ?_
      refine gt (v := .ref (ad 3)) kfX12_17 0 hC hw rfl rfl dX12_number_31 ?_
      refine lv_iload_n hx hb dX12_number_34 rfl (lv_at hl 2 rfl) ?_
      refine ldZ 3 2 hC hw rfl rfl h.1 dX12_number_35 ?_
      have h := h.2
      refine lv_if_ne (tgt := 45) hx hb dX12_number_36 (by decide) (fun c_8 => ?_) (fun c_8 => ?_)
      · have h := h.1 c_8
        refine lv_iload_n hx hb dX12_number_45 rfl (lv_at hl 0 rfl) ?_
        refine cSI ksX12_254 hC (m_X12_sortOf l x_7 h) rfl rfl ⟨by decide, by decide⟩ rfl hl.1 (Nat.le_of_ble_eq_true rfl) dX12_number_46 ⟨Nat.zero_le _, Nat.zero_le _⟩ rfl ?_
        intro r_9 h
        refine lv_iconst (v := (2 : Int32)) hx hb dX12_number_49 (by decide) ?_
        refine lv_icmp_ne (tgt := 58) hx hb dX12_number_50 (by decide) (fun c_10 => ?_) (fun c_10 => ?_)
        · have h := h.1 c_10
          refine lv_iload_n hx hb dX12_number_58 rfl (lv_at hl 0 rfl) ?_
          refine cSI ksX12_254 hC (m_X12_sortOf l x_7 h) rfl rfl ⟨by decide, by decide⟩ rfl hl.1 (Nat.le_of_ble_eq_true rfl) dX12_number_59 ⟨Nat.zero_le _, Nat.zero_le _⟩ rfl ?_
          intro r_11 h
          refine lv_iconst (v := (3 : Int32)) hx hb dX12_number_62 (by decide) ?_
          refine lv_icmp_ne (tgt := 71) hx hb dX12_number_63 (by decide) (fun c_12 => ?_) (fun c_12 => ?_)
          · have h := h.1 c_12
            refine lv_iload_n hx hb dX12_number_71 rfl (lv_at hl 0 rfl) ?_
            refine cSI ksX12_254 hC (m_X12_sortOf l x_7 h) rfl rfl ⟨by decide, by decide⟩ rfl hl.1 (Nat.le_of_ble_eq_true rfl) dX12_number_72 ⟨Nat.zero_le _, Nat.zero_le _⟩ rfl ?_
            intro r_13 h
            refine lv_iconst (v := (5 : Int32)) hx hb dX12_number_75 (by decide) ?_
            refine lv_icmp_ne (tgt := 93) hx hb dX12_number_76 (by decide) (fun c_14 => ?_) (fun c_14 => ?_)
            · have h := h.1 c_14
              refine lv_aload_n hx hb dX12_number_93 rfl (lv_at hl 1 rfl) ?_
              refine lv_iconst (v := (2 : Int32)) hx hb dX12_number_94 (by decide) ?_
              refine cVIw (q0 := 0) kmX12_230 hC hw (m_X12_raise l D cI cC cZ cJ ad (2 : Int32) g_1 k h) rfl rfl ⟨by decide, by decide⟩ rfl rfl rfl hl.1 (Nat.le_of_ble_eq_true rfl) dX12_number_95 ⟨Nat.zero_le _, Nat.zero_le _⟩ rfl ?_
              intro r_17 u H locs h hw
              obtain ⟨g_15, k_16⟩ := u
              dsimp only at h hw
              exact rtI (wf := (fun u : St × StL => (wM ad cI cC cZ cJ u.1 u.2))) (g_15, k_16) hC hr hlk hw rfl h dX12_number_98
            · have h := h.2 c_14
              refine lv_aload_n hx hb dX12_number_79 rfl (lv_at hl 1 rfl) ?_
              refine gt (v := .ref (ad 11)) kfX12_104 0 hC hw rfl rfl dX12_number_80 ?_
              refine lv_iload_n hx hb dX12_number_83 rfl (lv_at hl 0 rfl) ?_
              refine cSI ksX12_180 hC (m_X12_load l x_7 h) rfl rfl ⟨by decide, by decide⟩ rfl hl.1 (Nat.le_of_ble_eq_true rfl) dX12_number_84 ⟨Nat.zero_le _, Nat.zero_le _⟩ rfl ?_
              intro r_18 h
              refine ldI 11 0 hC hw rfl rfl h.1 dX12_number_87 ?_
              have h := h.2
              refine lv_iconst (v := (1 : Int32)) hx hb dX12_number_88 (by decide) ?_
              refine lv_isub hx hb dX12_number_89 ?_
              refine lv_goto (tgt := 98) hx hb dX12_number_90 (by decide) ?_
              exact rtI (wf := (fun u : St × StL => (wM ad cI cC cZ cJ u.1 u.2))) (g_1, k) hC hr hlk hw rfl h dX12_number_98
          · have h := h.2 c_12
            refine lv_iload_n hx hb dX12_number_66 rfl (lv_at hl 0 rfl) ?_
            refine cSI ksX12_180 hC (m_X12_load l x_7 h) rfl rfl ⟨by decide, by decide⟩ rfl hl.1 (Nat.le_of_ble_eq_true rfl) dX12_number_67 ⟨Nat.zero_le _, Nat.zero_le _⟩ rfl ?_
            intro r_19 h
            exact rtI (wf := (fun u : St × StL => (wM ad cI cC cZ cJ u.1 u.2))) (g_1, k) hC hr hlk hw rfl h dX12_number_70
        · have h := h.2 c_10
          refine lv_iload_n hx hb dX12_number_53 rfl (lv_at hl 0 rfl) ?_
          refine cSI ksX12_385 hC (m_X12_amount l x_7 h) rfl rfl ⟨by decide, by decide⟩ rfl hl.1 (Nat.le_of_ble_eq_true rfl) dX12_number_54 ⟨Nat.zero_le _, Nat.zero_le _⟩ rfl ?_
          intro r_20 h
          exact rtI (wf := (fun u : St × StL => (wM ad cI cC cZ cJ u.1 u.2))) (g_1, k) hC hr hlk hw rfl h dX12_number_57
      · have h := h.2 c_8
        refine lv_aload_n hx hb dX12_number_39 rfl (lv_at hl 1 rfl) ?_
        refine lv_iconst (v := (2 : Int32)) hx hb dX12_number_40 (by decide) ?_
        refine cVIw (q0 := 0) kmX12_230 hC hw (m_X12_raise l D cI cC cZ cJ ad (2 : Int32) g_1 k h) rfl rfl ⟨by decide, by decide⟩ rfl rfl rfl hl.1 (Nat.le_of_ble_eq_true rfl) dX12_number_41 ⟨Nat.zero_le _, Nat.zero_le _⟩ rfl ?_
        intro r_23 u H locs h hw
        obtain ⟨g_21, k_22⟩ := u
        dsimp only at h hw
        exact rtI (wf := (fun u : St × StL => (wM ad cI cC cZ cJ u.1 u.2))) (g_21, k_22) hC hr hlk hw rfl h dX12_number_44
    · have h := h.2 c_6
      refine lv_aload_n hx hb dX12_number_17 rfl (lv_at hl 0 rfl) ?_
      refine lv_iconst (v := (1 : Int32)) hx hb dX12_number_18 (by decide) ?_
      refine cVIw (q0 := 0) kmX12_230 hC hw (m_X12_raise l D cI cC cZ cJ ad (1 : Int32) g_1 k h) rfl rfl ⟨by decide, by decide⟩ rfl rfl rfl hl.1 (Nat.le_of_ble_eq_true rfl) dX12_number_19 ⟨Nat.zero_le _, Nat.zero_le _⟩ rfl ?_
      intro r_26 u H locs h hw
      obtain ⟨g_24, k_25⟩ := u
      dsimp only at h hw
      exact rtI (wf := (fun u : St × StL => (wM ad cI cC cZ cJ u.1 u.2))) (g_24, k_25) hC hr hlk hw rfl h dX12_number_22
def V_X12_count (x1 : Int32) (g : St) (k : StL) (post : Int32 → St → StL → Prop) : Prop := ∀ g_1 : St, g_1 = us g 0 (0 : Int32) → ((x1 = (0 : Int32) → post (g_1 0 4) g_1 k) ∧ (x1 = (1 : Int32) → post (g_1 0 5) g_1 k) ∧ (x1 = (2 : Int32) → post (g_1 0 6) g_1 k) ∧ (x1 = (3 : Int32) → post (g_1 0 19) g_1 k) ∧ (x1 = (4 : Int32) → post (g_1 0 21) g_1 k) ∧ (x1 = (5 : Int32) → post (g_1 0 2) g_1 k) ∧ (x1 = (6 : Int32) → post (g_1 0 7) g_1 k) ∧ (x1 = (7 : Int32) → post (g_1 0 24) g_1 k) ∧ (x1 = (8 : Int32) → post (g_1 0 25) g_1 k) ∧ (x1 = (9 : Int32) → post (g_1 0 22) g_1 k) ∧ (x1 = (10 : Int32) → post (g_1 0 23) g_1 k) ∧ (¬ x1 = (0 : Int32) → ¬ x1 = (1 : Int32) → ¬ x1 = (2 : Int32) → ¬ x1 = (3 : Int32) → ¬ x1 = (4 : Int32) → ¬ x1 = (5 : Int32) → ¬ x1 = (6 : Int32) → ¬ x1 = (7 : Int32) → ¬ x1 = (8 : Int32) → ¬ x1 = (9 : Int32) → ¬ x1 = (10 : Int32) → V_X12_raise (1 : Int32) g_1 k (fun r_5 g_3 k_4 => post r_5 g_3 k_4)))
abbrev RM_X12_count : Room := { frames := 1, cells := 0, slots := 0, locals := 21 }
set_option maxHeartbeats 4000000 in
set_option maxRecDepth 100000 in
theorem m_X12_count (l : Launch) (D : va_G) (cI cC cZ cJ : ClassId) (ad : Nat → Nat) (x1 : Int32) (g : St) (k : StL) {post : Int32 → St → StL → Prop} (h : V_X12_count x1 g k post) : MetI l yX12_count cX12_count 2 .int RM_X12_count D (ty4 cI cC cZ cJ) (wM ad cI cC cZ cJ g k) [.ref (ad 0), .int x1] (fun u : St × StL => (wM ad cI cC cZ cJ u.1 u.2)) (fun (r : Int32) (u : St × StL) => post r u.1 u.2) := by
  refine mkI (by decide) (Nat.le_of_ble_eq_true rfl) ?_
  intro p e s m args below meth c A ls hC hr hlk hw hl
  have hx := hC.1
  have hb := hC.2.1
  have hl : lv_has ls 2 [(0, .ref (ad 0)), (1, .int x1)] := hl
  unfold V_X12_count at h
  refine lv_aload_n hx hb dX12_count_0 rfl (lv_at hl 0 rfl) ?_
  refine lv_iconst (v := (0 : Int32)) hx hb dX12_count_1 (by decide) ?_
  refine pwM_0 kpX12_175 hC hw dX12_count_2 (fun H locs g_1 eg_1 hw => ?_)
  have h := h g_1 eg_1
  refine lv_iload_n hx hb dX12_count_5 rfl (lv_at hl 1 rfl) ?_
  by_cases c_2_0 : x1 = (0 : Int32)
  · refine lv_tableIn (off := 58) (tgt := 64) hx hb dX12_count_6 (by rw [c_2_0]; decide) (by rw [c_2_0]; decide) (by rw [c_2_0]; decide) (by decide) ?_
    have h := h.1 c_2_0
    refine lv_aload_n hx hb dX12_count_64 rfl (lv_at hl 0 rfl) ?_
    refine gt (v := .int (g_1 0 4)) kfX12_287 0 hC hw rfl rfl dX12_count_65 ?_
    exact rtI (wf := (fun u : St × StL => (wM ad cI cC cZ cJ u.1 u.2))) (g_1, k) hC hr hlk hw rfl h dX12_count_68
  have h := h.2
  by_cases c_2_1 : x1 = (1 : Int32)
  · refine lv_tableIn (off := 63) (tgt := 69) hx hb dX12_count_6 (by rw [c_2_1]; decide) (by rw [c_2_1]; decide) (by rw [c_2_1]; decide) (by decide) ?_
    have h := h.1 c_2_1
    refine lv_aload_n hx hb dX12_count_69 rfl (lv_at hl 0 rfl) ?_
    refine gt (v := .int (g_1 0 5)) kfX12_290 0 hC hw rfl rfl dX12_count_70 ?_
    exact rtI (wf := (fun u : St × StL => (wM ad cI cC cZ cJ u.1 u.2))) (g_1, k) hC hr hlk hw rfl h dX12_count_73
  have h := h.2
  by_cases c_2_2 : x1 = (2 : Int32)
  · refine lv_tableIn (off := 68) (tgt := 74) hx hb dX12_count_6 (by rw [c_2_2]; decide) (by rw [c_2_2]; decide) (by rw [c_2_2]; decide) (by decide) ?_
    have h := h.1 c_2_2
    refine lv_aload_n hx hb dX12_count_74 rfl (lv_at hl 0 rfl) ?_
    refine gt (v := .int (g_1 0 6)) kfX12_293 0 hC hw rfl rfl dX12_count_75 ?_
    exact rtI (wf := (fun u : St × StL => (wM ad cI cC cZ cJ u.1 u.2))) (g_1, k) hC hr hlk hw rfl h dX12_count_78
  have h := h.2
  by_cases c_2_3 : x1 = (3 : Int32)
  · refine lv_tableIn (off := 73) (tgt := 79) hx hb dX12_count_6 (by rw [c_2_3]; decide) (by rw [c_2_3]; decide) (by rw [c_2_3]; decide) (by decide) ?_
    have h := h.1 c_2_3
    refine lv_aload_n hx hb dX12_count_79 rfl (lv_at hl 0 rfl) ?_
    refine gt (v := .int (g_1 0 19)) kfX12_320 0 hC hw rfl rfl dX12_count_80 ?_
    exact rtI (wf := (fun u : St × StL => (wM ad cI cC cZ cJ u.1 u.2))) (g_1, k) hC hr hlk hw rfl h dX12_count_83
  have h := h.2
  by_cases c_2_4 : x1 = (4 : Int32)
  · refine lv_tableIn (off := 78) (tgt := 84) hx hb dX12_count_6 (by rw [c_2_4]; decide) (by rw [c_2_4]; decide) (by rw [c_2_4]; decide) (by decide) ?_
    have h := h.1 c_2_4
    refine lv_aload_n hx hb dX12_count_84 rfl (lv_at hl 0 rfl) ?_
    refine gt (v := .int (g_1 0 21)) kfX12_403 0 hC hw rfl rfl dX12_count_85 ?_
    exact rtI (wf := (fun u : St × StL => (wM ad cI cC cZ cJ u.1 u.2))) (g_1, k) hC hr hlk hw rfl h dX12_count_88
  have h := h.2
  by_cases c_2_5 : x1 = (5 : Int32)
  · refine lv_tableIn (off := 83) (tgt := 89) hx hb dX12_count_6 (by rw [c_2_5]; decide) (by rw [c_2_5]; decide) (by rw [c_2_5]; decide) (by decide) ?_
    have h := h.1 c_2_5
    refine lv_aload_n hx hb dX12_count_89 rfl (lv_at hl 0 rfl) ?_
    refine gt (v := .int (g_1 0 2)) kfX12_185 0 hC hw rfl rfl dX12_count_90 ?_
    exact rtI (wf := (fun u : St × StL => (wM ad cI cC cZ cJ u.1 u.2))) (g_1, k) hC hr hlk hw rfl h dX12_count_93
  have h := h.2
  by_cases c_2_6 : x1 = (6 : Int32)
  · refine lv_tableIn (off := 88) (tgt := 94) hx hb dX12_count_6 (by rw [c_2_6]; decide) (by rw [c_2_6]; decide) (by rw [c_2_6]; decide) (by decide) ?_
    have h := h.1 c_2_6
    refine lv_aload_n hx hb dX12_count_94 rfl (lv_at hl 0 rfl) ?_
    refine gt (v := .int (g_1 0 7)) kfX12_191 0 hC hw rfl rfl dX12_count_95 ?_
    exact rtI (wf := (fun u : St × StL => (wM ad cI cC cZ cJ u.1 u.2))) (g_1, k) hC hr hlk hw rfl h dX12_count_98
  have h := h.2
  by_cases c_2_7 : x1 = (7 : Int32)
  · refine lv_tableIn (off := 93) (tgt := 99) hx hb dX12_count_6 (by rw [c_2_7]; decide) (by rw [c_2_7]; decide) (by rw [c_2_7]; decide) (by decide) ?_
    have h := h.1 c_2_7
    refine lv_aload_n hx hb dX12_count_99 rfl (lv_at hl 0 rfl) ?_
    refine gt (v := .int (g_1 0 24)) kfX12_421 0 hC hw rfl rfl dX12_count_100 ?_
    exact rtI (wf := (fun u : St × StL => (wM ad cI cC cZ cJ u.1 u.2))) (g_1, k) hC hr hlk hw rfl h dX12_count_103
  have h := h.2
  by_cases c_2_8 : x1 = (8 : Int32)
  · refine lv_tableIn (off := 98) (tgt := 104) hx hb dX12_count_6 (by rw [c_2_8]; decide) (by rw [c_2_8]; decide) (by rw [c_2_8]; decide) (by decide) ?_
    have h := h.1 c_2_8
    refine lv_aload_n hx hb dX12_count_104 rfl (lv_at hl 0 rfl) ?_
    refine gt (v := .int (g_1 0 25)) kfX12_400 0 hC hw rfl rfl dX12_count_105 ?_
    exact rtI (wf := (fun u : St × StL => (wM ad cI cC cZ cJ u.1 u.2))) (g_1, k) hC hr hlk hw rfl h dX12_count_108
  have h := h.2
  by_cases c_2_9 : x1 = (9 : Int32)
  · refine lv_tableIn (off := 103) (tgt := 109) hx hb dX12_count_6 (by rw [c_2_9]; decide) (by rw [c_2_9]; decide) (by rw [c_2_9]; decide) (by decide) ?_
    have h := h.1 c_2_9
    refine lv_aload_n hx hb dX12_count_109 rfl (lv_at hl 0 rfl) ?_
    refine gt (v := .int (g_1 0 22)) kfX12_418 0 hC hw rfl rfl dX12_count_110 ?_
    exact rtI (wf := (fun u : St × StL => (wM ad cI cC cZ cJ u.1 u.2))) (g_1, k) hC hr hlk hw rfl h dX12_count_113
  have h := h.2
  by_cases c_2_10 : x1 = (10 : Int32)
  · refine lv_tableIn (off := 108) (tgt := 114) hx hb dX12_count_6 (by rw [c_2_10]; decide) (by rw [c_2_10]; decide) (by rw [c_2_10]; decide) (by decide) ?_
    have h := h.1 c_2_10
    refine lv_aload_n hx hb dX12_count_114 rfl (lv_at hl 0 rfl) ?_
    refine gt (v := .int (g_1 0 23)) kfX12_409 0 hC hw rfl rfl dX12_count_115 ?_
    exact rtI (wf := (fun u : St × StL => (wM ad cI cC cZ cJ u.1 u.2))) (g_1, k) hC hr hlk hw rfl h dX12_count_118
  have h := h.2
  have nc_2_0 := lv_neT c_2_0 (a := 0) (by decide)
  have nc_2_1 := lv_neT c_2_1 (a := 1) (by decide)
  have nc_2_2 := lv_neT c_2_2 (a := 2) (by decide)
  have nc_2_3 := lv_neT c_2_3 (a := 3) (by decide)
  have nc_2_4 := lv_neT c_2_4 (a := 4) (by decide)
  have nc_2_5 := lv_neT c_2_5 (a := 5) (by decide)
  have nc_2_6 := lv_neT c_2_6 (a := 6) (by decide)
  have nc_2_7 := lv_neT c_2_7 (a := 7) (by decide)
  have nc_2_8 := lv_neT c_2_8 (a := 8) (by decide)
  have nc_2_9 := lv_neT c_2_9 (a := 9) (by decide)
  have nc_2_10 := lv_neT c_2_10 (a := 10) (by decide)
  refine lv_tableOut (tgt := 119) hx hb dX12_count_6 (by omega) (by decide) ?_
  have h := h c_2_0 c_2_1 c_2_2 c_2_3 c_2_4 c_2_5 c_2_6 c_2_7 c_2_8 c_2_9 c_2_10
  refine lv_aload_n hx hb dX12_count_119 rfl (lv_at hl 0 rfl) ?_
  refine lv_iconst (v := (1 : Int32)) hx hb dX12_count_120 (by decide) ?_
  refine cVIw (q0 := 0) kmX12_230 hC hw (m_X12_raise l D cI cC cZ cJ ad (1 : Int32) g_1 k h) rfl rfl ⟨by decide, by decide⟩ rfl rfl rfl hl.1 (Nat.le_of_ble_eq_true rfl) dX12_count_121 ⟨Nat.zero_le _, Nat.zero_le _⟩ rfl ?_
  intro r_5 u H locs h hw
  obtain ⟨g_3, k_4⟩ := u
  dsimp only at h hw
  exact rtI (wf := (fun u : St × StL => (wM ad cI cC cZ cJ u.1 u.2))) (g_3, k_4) hC hr hlk hw rfl h dX12_count_124
