def V_X12_print_10 (post : St → StL → Prop) : Nat → St → StL → Prop
  | 0, _, _ => False
  | n + 1, g, k => (((g 0 26) ≤ 0 → V_X12_put (10 : Int32) g k (fun g_2 k_3 => post g_2 k_3)) ∧ (¬ (g 0 26) ≤ 0 → (((200 : Int32) ≤ (g 0 24) → V_X12_put (10 : Int32) g k (fun g_6 k_7 => post g_6 k_7)) ∧ (¬ (200 : Int32) ≤ (g 0 24) → V_X12_more n  g k (fun g_9 k_10 => V_X12_print_10 post n g_9 k_10)))))
def V_X12_print (n : Nat) (x1 : Int32) (g : St) (k : StL) (post : St → StL → Prop) : Prop := ∀ g_12 : St, g_12 = us g 26 (0 : Int32) → V_X12_show n x1 g_12 k (fun g_13 k_14 => V_X12_print_10 post n g_13 k_14)
abbrev RM_X12_print : Room := { frames := 4, cells := 0, slots := 0, locals := 91 }
set_option maxHeartbeats 4000000 in
set_option maxRecDepth 100000 in
theorem m_X12_print (l : Launch) (D : va_G) (cI cC cZ cJ : ClassId) (ad : Nat → Nat) (n : Nat) (x1 : Int32) (g : St) (k : StL) {post : St → StL → Prop} (h : V_X12_print n x1 g k post) : MetV l yX12_print cX12_print 2 RM_X12_print D (ty4 cI cC cZ cJ) (wM ad cI cC cZ cJ g k) [.ref (ad 0), .int x1] (fun u : St × StL => (wM ad cI cC cZ cJ u.1 u.2)) (fun u : St × StL => post u.1 u.2) := by
  refine mkV (by decide) (Nat.le_of_ble_eq_true rfl) ?_
  intro p e s m args below meth c A ls hC hr hlk hw hl
  have hx := hC.1
  have hb := hC.2.1
  have hl : lv_has ls 2 [(0, .ref (ad 0)), (1, .int x1)] := hl
  have w_10 : ∀ (n : Nat) (g : St) (k : StL) (H : Heap) (locs : List Loc) (ls : Array Slot), V_X12_print_10 post n g k → Wd D (ty4 cI cC cZ cJ) A s (wM ad cI cC cZ cJ g k) H locs → lv_has ls 2 [(0, .ref (ad 0))] → W p l e RM_X12_print s m args below meth c H locs 0 0 (QV below D (ty4 cI cC cZ cJ) A args s (fun u : St × StL => (wM ad cI cC cZ cJ u.1 u.2)) (fun u : St × StL => post u.1 u.2)) (F0 m 10 ls []) := by
    intro n
    induction n with
    | zero =>
      intro g k H locs ls h
      exact False.elim h
    | succ n ih =>
      intro g k H locs ls h hw hl
      rw [V_X12_print_10] at h
      refine lv_aload_n hx hb dX12_print_10 rfl (lv_at hl 0 rfl) ?_
      refine gt (v := .int (g 0 26)) kfX12_427 0 hC hw rfl rfl dX12_print_11 ?_
      refine lv_if_le (tgt := 34) hx hb dX12_print_14 (by decide) (fun c_1 => ?_) (fun c_1 => ?_)
      · have h := h.1 c_1
        refine lv_aload_n hx hb dX12_print_34 rfl (lv_at hl 0 rfl) ?_
        refine lv_bipush (v := (10 : Int32)) hx hb dX12_print_35 (by decide) ?_
        refine cVVw (q0 := 0) kmX12_424 hC hw (m_X12_put l D cI cC cZ cJ ad (10 : Int32) g k h) rfl rfl ⟨by decide, by decide⟩ rfl rfl rfl hl.1 (Nat.le_of_ble_eq_true rfl) dX12_print_37 ⟨Nat.zero_le _, Nat.zero_le _⟩ rfl ?_
        intro u H locs h hw
        obtain ⟨g_2, k_3⟩ := u
        dsimp only at h hw
        exact rtV (wf := (fun u : St × StL => (wM ad cI cC cZ cJ u.1 u.2))) (g_2, k_3) hC hr hlk hw h dX12_print_40
      · have h := h.2 c_1
        refine lv_aload_n hx hb dX12_print_17 rfl (lv_at hl 0 rfl) ?_
        refine gt (v := .int (g 0 24)) kfX12_421 0 hC hw rfl rfl dX12_print_18 ?_
        refine lv_sipush (v := (200 : Int32)) hx hb dX12_print_21 (by decide) ?_
        refine lv_icmp_ge (tgt := 34) hx hb dX12_print_24 (by decide) (fun c_5 => ?_) (fun c_5 => ?_)
        · have h := h.1 c_5
          refine lv_aload_n hx hb dX12_print_34 rfl (lv_at hl 0 rfl) ?_
          refine lv_bipush (v := (10 : Int32)) hx hb dX12_print_35 (by decide) ?_
          refine cVVw (q0 := 0) kmX12_424 hC hw (m_X12_put l D cI cC cZ cJ ad (10 : Int32) g k h) rfl rfl ⟨by decide, by decide⟩ rfl rfl rfl hl.1 (Nat.le_of_ble_eq_true rfl) dX12_print_37 ⟨Nat.zero_le _, Nat.zero_le _⟩ rfl ?_
          intro u H locs h hw
          obtain ⟨g_6, k_7⟩ := u
          dsimp only at h hw
          exact rtV (wf := (fun u : St × StL => (wM ad cI cC cZ cJ u.1 u.2))) (g_6, k_7) hC hr hlk hw h dX12_print_40
        · have h := h.2 c_5
          refine lv_aload_n hx hb dX12_print_27 rfl (lv_at hl 0 rfl) ?_
          refine cVVw (q0 := 0) kmX12_439 hC hw (m_X12_more l D cI cC cZ cJ ad n  g k h) rfl rfl ⟨by decide, by decide⟩ rfl rfl rfl hl.1 (Nat.le_of_ble_eq_true rfl) dX12_print_28 ⟨Nat.zero_le _, Nat.zero_le _⟩ rfl ?_
          intro u H locs h hw
          obtain ⟨g_9, k_10⟩ := u
          dsimp only at h hw
          refine lv_goto (tgt := 10) hx hb dX12_print_31 (by decide) ?_
          exact ih g_9 k_10 _ _ _ h hw (lv_sub hl [0] rfl)
  unfold V_X12_print at h
  refine lv_aload_n hx hb dX12_print_0 rfl (lv_at hl 0 rfl) ?_
  refine lv_iconst (v := (0 : Int32)) hx hb dX12_print_1 (by decide) ?_
  refine pwM_55 kpX12_427 hC hw dX12_print_2 (fun H locs g_12 eg_12 hw => ?_)
  have h := h g_12 eg_12
  refine lv_aload_n hx hb dX12_print_5 rfl (lv_at hl 0 rfl) ?_
  refine lv_iload_n hx hb dX12_print_6 rfl (lv_at hl 1 rfl) ?_
  refine cVVw (q0 := 0) kmX12_436 hC hw (m_X12_show l D cI cC cZ cJ ad n x1 g_12 k h) rfl rfl ⟨by decide, by decide⟩ rfl rfl rfl hl.1 (Nat.le_of_ble_eq_true rfl) dX12_print_7 ⟨Nat.zero_le _, Nat.zero_le _⟩ rfl ?_
  intro u H locs h hw
  obtain ⟨g_13, k_14⟩ := u
  dsimp only at h hw
  exact w_10 n g_13 k_14 _ _ _ h hw (lv_sub hl [0] rfl)
def V_X12_get_29 (post : Int32 → St → StL → Prop) : Nat → Int32 → Int32 → St → StL → Prop
  | 0, _, _, _, _ => False
  | n + 1, x1, x2, g, k => (((g 0 25) ≤ x2 → V_X12_numeral x1 (fun r_2 => post r_2 g k)) ∧ (¬ (g 0 25) ≤ x2 → (vp_in (x2 + (1 : Int32)) 8 ∧ (vp_in x2 8 ∧ ∀ g_3 : St, g_3 = up g 24 x2.toNatClampNeg (g 24 (x2 + (1 : Int32)).toNatClampNeg) → ∀ x_4 : Int32, x_4 = x2 + (1 : Int32) → V_X12_get_29 post n x1 x_4 g_3 k))))
def V_X12_get (n : Nat) (g : St) (k : StL) (post : Int32 → St → StL → Prop) : Prop := ((¬ (g 0 25) = 0 → (vp_in (0 : Int32) 8 ∧ ∀ x_6 : Int32, x_6 = (g 24 (0 : Int32).toNatClampNeg) → ∀ g_7 : St, g_7 = us g 25 ((g 0 25) - (1 : Int32)) → ∀ x_8 : Int32, x_8 = (0 : Int32) → V_X12_get_29 post n x_6 x_8 g_7 k)) ∧ ((g 0 25) = 0 → post (1048576 : Int32) g k))
abbrev RM_X12_get : Room := { frames := 2, cells := 0, slots := 0, locals := 41 }
set_option maxHeartbeats 4000000 in
set_option maxRecDepth 100000 in
theorem m_X12_get (l : Launch) (D : va_G) (cI cC cZ cJ : ClassId) (ad : Nat → Nat) (n : Nat) (g : St) (k : StL) {post : Int32 → St → StL → Prop} (h : V_X12_get n g k post) : MetI l yX12_get cX12_get 3 .int RM_X12_get D (ty4 cI cC cZ cJ) (wM ad cI cC cZ cJ g k) [.ref (ad 0)] (fun u : St × StL => (wM ad cI cC cZ cJ u.1 u.2)) (fun (r : Int32) (u : St × StL) => post r u.1 u.2) := by
  refine mkI (by decide) (Nat.le_of_ble_eq_true rfl) ?_
  intro p e s m args below meth c A ls hC hr hlk hw hl
  have hx := hC.1
  have hb := hC.2.1
  have hl : lv_has ls 3 [(0, .ref (ad 0))] := hl
  have w_29 : ∀ (n : Nat) (x1 : Int32) (x2 : Int32) (g : St) (k : StL) (H : Heap) (locs : List Loc) (ls : Array Slot), V_X12_get_29 post n x1 x2 g k → Wd D (ty4 cI cC cZ cJ) A s (wM ad cI cC cZ cJ g k) H locs → lv_has ls 3 [(0, .ref (ad 0)), (1, .int x1), (2, .int x2)] → W p l e RM_X12_get s m args below meth c H locs 0 0 (QI below D (ty4 cI cC cZ cJ) A args s (fun u : St × StL => (wM ad cI cC cZ cJ u.1 u.2)) (fun (r : Int32) (u : St × StL) => post r u.1 u.2)) (F0 m 29 ls []) := by
    intro n
    induction n with
    | zero =>
      intro x1 x2 g k H locs ls h
      exact False.elim h
    | succ n ih =>
      intro x1 x2 g k H locs ls h hw hl
      rw [V_X12_get_29] at h
      refine lv_iload_n hx hb dX12_get_29 rfl (lv_at hl 2 rfl) ?_
      refine lv_aload_n hx hb dX12_get_30 rfl (lv_at hl 0 rfl) ?_
      refine gt (v := .int (g 0 25)) kfX12_400 0 hC hw rfl rfl dX12_get_31 ?_
      refine lv_icmp_ge (tgt := 57) hx hb dX12_get_34 (by decide) (fun c_1 => ?_) (fun c_1 => ?_)
      · have h := h.1 c_1
        refine lv_iload_n hx hb dX12_get_57 rfl (lv_at hl 1 rfl) ?_
        refine cSI ksX12_214 hC (m_X12_numeral l x1 h) rfl rfl ⟨by decide, by decide⟩ rfl hl.1 (Nat.le_of_ble_eq_true rfl) dX12_get_58 ⟨Nat.zero_le _, Nat.zero_le _⟩ rfl ?_
        intro r_2 h
        exact rtI (wf := (fun u : St × StL => (wM ad cI cC cZ cJ u.1 u.2))) (g, k) hC hr hlk hw rfl h dX12_get_61
      · have h := h.2 c_1
        refine lv_aload_n hx hb dX12_get_37 rfl (lv_at hl 0 rfl) ?_
        refine gt (v := .ref (ad 26)) kfX12_150 0 hC hw rfl rfl dX12_get_38 ?_
        refine lv_iload_n hx hb dX12_get_41 rfl (lv_at hl 2 rfl) ?_
        refine lv_aload_n hx hb dX12_get_42 rfl (lv_at hl 0 rfl) ?_
        refine gt (v := .ref (ad 26)) kfX12_150 0 hC hw rfl rfl dX12_get_43 ?_
        refine lv_iload_n hx hb dX12_get_46 rfl (lv_at hl 2 rfl) ?_
        refine lv_iconst (v := (1 : Int32)) hx hb dX12_get_47 (by decide) ?_
        refine lv_iadd hx hb dX12_get_48 ?_
        refine ldI 26 0 hC hw rfl rfl h.1 dX12_get_49 ?_
        have h := h.2
        refine swM_26 h.1 hC hw dX12_get_50 (fun H locs g_3 eg_3 hw => ?_)
        have h := h.2 g_3 eg_3
        obtain ⟨x_4, ex_4⟩ : ∃ y : Int32, y = x2 + (1 : Int32) := ⟨_, rfl⟩
        have h := h x_4 ex_4
        refine lv_iinc (v := x_4) (lv' := [(2, .int x_4), (0, .ref (ad 0)), (1, .int x1)]) hx hb dX12_get_51 hl (k := 2) rfl (by rw [ex_4]; rfl) (by decide) rfl (fun ls hl => ?_)
        refine lv_goto (tgt := 29) hx hb dX12_get_54 (by decide) ?_
        exact ih x1 x_4 g_3 k _ _ _ h hw (lv_sub hl [1, 2, 0] rfl)
  unfold V_X12_get at h
  refine lv_aload_n hx hb dX12_get_0 rfl (lv_at hl 0 rfl) ?_
  refine gt (v := .int (g 0 25)) kfX12_400 0 hC hw rfl rfl dX12_get_1 ?_
  refine lv_if_ne (tgt := 10) hx hb dX12_get_4 (by decide) (fun c_5 => ?_) (fun c_5 => ?_)
  · have h := h.1 c_5
    refine lv_aload_n hx hb dX12_get_10 rfl (lv_at hl 0 rfl) ?_
    refine gt (v := .ref (ad 26)) kfX12_150 0 hC hw rfl rfl dX12_get_11 ?_
    refine lv_iconst (v := (0 : Int32)) hx hb dX12_get_14 (by decide) ?_
    refine ldI 26 0 hC hw rfl rfl h.1 dX12_get_15 ?_
    have h := h.2
    refine lv_topi (fun x_6 ex_6 => ?_)
    have h := h x_6 ex_6
    refine lv_istore_n (lv' := [(1, .int x_6), (0, .ref (ad 0))]) hx hb dX12_get_16 rfl hl (by decide) rfl (fun ls hl => ?_)
    refine lv_aload_n hx hb dX12_get_17 rfl (lv_at hl 1 rfl) ?_
    refine lv_dup hx hb dX12_get_18 rfl ?_
    refine gt (v := .int (g 0 25)) kfX12_400 0 hC hw rfl rfl dX12_get_19 ?_
    refine lv_iconst (v := (1 : Int32)) hx hb dX12_get_22 (by decide) ?_
    refine lv_isub hx hb dX12_get_23 ?_
    refine pwM_52 kpX12_400 hC hw dX12_get_24 (fun H locs g_7 eg_7 hw => ?_)
    have h := h g_7 eg_7
    refine lv_iconst (v := (0 : Int32)) hx hb dX12_get_27 (by decide) ?_
    refine lv_topi (fun x_8 ex_8 => ?_)
    have h := h x_8 ex_8
    refine lv_istore_n (lv' := [(2, .int x_8), (1, .int x_6), (0, .ref (ad 0))]) hx hb dX12_get_28 rfl hl (by decide) rfl (fun ls hl => ?_)
    exact w_29 n x_6 x_8 g_7 k _ _ _ h hw (lv_sub hl [2, 1, 0] rfl)
  · have h := h.2 c_5
    refine lv_ldc (v := (1048576 : Int32)) hx hb hC.2.2.2.1 (hC.2.2.2.2 _ (List.mem_cons_of_mem _ kcX12_184)) dX12_get_7 ?_
    exact rtI (wf := (fun u : St × StL => (wM ad cI cC cZ cJ u.1 u.2))) (g, k) hC hr hlk hw rfl h dX12_get_9
def V_X12_others (n : Nat) (x1 : Int32) (x2 : Int32) (g : St) (k : StL) (post : Int32 → St → StL → Prop) : Prop := (vp_in x2 1100 ∧ ∀ x_1 : Int32, x_1 = (g 21 x2.toNatClampNeg) → ((¬ x1 = (25 : Int32) → ((¬ x1 = (29 : Int32) → ((¬ x1 = (30 : Int32) → V_X12_sortOf x_1 (fun r_5 => ((r_5 = (5 : Int32) → V_X12_load x_1 (fun r_7 => (vp_in r_7 168 ∧ ∀ x_8 : Int32, x_8 = ((g 9 r_7.toNatClampNeg) - (1 : Int32)) → ((¬ x1 = (28 : Int32) → (vp_in (x2 + (1 : Int32)) 1100 ∧ V_X12_sortOf (g 21 (x2 + (1 : Int32)).toNatClampNeg) (fun r_10 => ((r_10 = (2 : Int32) → (vp_in (x2 + (1 : Int32)) 1100 ∧ V_X12_amount (g 21 (x2 + (1 : Int32)).toNatClampNeg) (fun r_12 => ((r_12 < 0 → V_X12_fail (6 : Int32) g k (fun r_16 g_14 k_15 => post r_16 g_14 k_15)) ∧ (¬ r_12 < 0 → ((r_12 < x_8 → ((¬ x1 = (27 : Int32) → V_X12_load x_1 (fun r_19 => (vp_in (((8 : Int32) * r_19) + r_12) 1344 ∧ post (g 10 (((8 : Int32) * r_19) + r_12).toNatClampNeg) g k))) ∧ (x1 = (27 : Int32) → V_X12_load x_1 (fun r_20 => (vp_in (x2 + (2 : Int32)) 1100 ∧ (vp_in (((8 : Int32) * r_20) + r_12) 1344 ∧ ∀ g_21 : St, g_21 = up g 10 (((8 : Int32) * r_20) + r_12).toNatClampNeg (g 21 (x2 + (2 : Int32)).toNatClampNeg) → V_X12_load x_1 (fun r_22 => (vp_in (((8 : Int32) * r_22) + r_12) 1344 ∧ post (g_21 10 (((8 : Int32) * r_22) + r_12).toNatClampNeg) g_21 k)))))))) ∧ (¬ r_12 < x_8 → V_X12_fail (6 : Int32) g k (fun r_25 g_23 k_24 => post r_25 g_23 k_24)))))))) ∧ (¬ r_10 = (2 : Int32) → V_X12_fail (4 : Int32) g k (fun r_28 g_26 k_27 => post r_28 g_26 k_27)))))) ∧ (x1 = (28 : Int32) → V_X12_numeral x_8 (fun r_29 => post r_29 g k)))))) ∧ (¬ r_5 = (5 : Int32) → V_X12_fail (4 : Int32) g k (fun r_32 g_30 k_31 => post r_32 g_30 k_31))))) ∧ (x1 = (30 : Int32) → V_X12_get n  g k (fun r_35 g_33 k_34 => post r_35 g_33 k_34)))) ∧ (x1 = (29 : Int32) → V_X12_print n x_1 g k (fun g_36 k_37 => post x_1 g_36 k_37)))) ∧ (x1 = (25 : Int32) → (vp_in (x2 + (1 : Int32)) 1100 ∧ V_X12_vector n x_1 (g 21 (x2 + (1 : Int32)).toNatClampNeg) g k (fun r_41 g_39 k_40 => post r_41 g_39 k_40)))))
abbrev RM_X12_others : Room := { frames := 6, cells := 0, slots := 0, locals := 134 }
set_option maxHeartbeats 4000000 in
set_option maxRecDepth 100000 in
theorem m_X12_others (l : Launch) (D : va_G) (cI cC cZ cJ : ClassId) (ad : Nat → Nat) (n : Nat) (x1 : Int32) (x2 : Int32) (g : St) (k : StL) {post : Int32 → St → StL → Prop} (h : V_X12_others n x1 x2 g k post) : MetI l yX12_others cX12_others 6 .int RM_X12_others D (ty4 cI cC cZ cJ) (wM ad cI cC cZ cJ g k) [.ref (ad 0), .int x1, .int x2] (fun u : St × StL => (wM ad cI cC cZ cJ u.1 u.2)) (fun (r : Int32) (u : St × StL) => post r u.1 u.2) := by
  refine mkI (by decide) (Nat.le_of_ble_eq_true rfl) ?_
  intro p e s m args below meth c A ls hC hr hlk hw hl
  have hx := hC.1
  have hb := hC.2.1
  have hl : lv_has ls 6 [(0, .ref (ad 0)), (1, .int x1), (2, .int x2)] := hl
  unfold V_X12_others at h
  refine lv_aload_n hx hb dX12_others_0 rfl (lv_at hl 0 rfl) ?_
  refine gt (v := .ref (ad 23)) kfX12_140 0 hC hw rfl rfl dX12_others_1 ?_
  refine lv_iload_n hx hb dX12_others_4 rfl (lv_at hl 2 rfl) ?_
  refine ldI 23 0 hC hw rfl rfl h.1 dX12_others_5 ?_
  have h := h.2
  refine lv_topi (fun x_1 ex_1 => ?_)
  have h := h x_1 ex_1
  refine lv_istore_n (lv' := [(3, .int x_1), (0, .ref (ad 0)), (1, .int x1), (2, .int x2)]) hx hb dX12_others_6 rfl hl (by decide) rfl (fun ls hl => ?_)
  refine lv_iload_n hx hb dX12_others_7 rfl (lv_at hl 2 rfl) ?_
  refine lv_bipush (v := (25 : Int32)) hx hb dX12_others_8 (by decide) ?_
  refine lv_icmp_ne (tgt := 27) hx hb dX12_others_10 (by decide) (fun c_2 => ?_) (fun c_2 => ?_)
  · have h := h.1 c_2
    refine lv_iload_n hx hb dX12_others_27 rfl (lv_at hl 2 rfl) ?_
    refine lv_bipush (v := (29 : Int32)) hx hb dX12_others_28 (by decide) ?_
    refine lv_icmp_ne (tgt := 40) hx hb dX12_others_30 (by decide) (fun c_3 => ?_) (fun c_3 => ?_)
    · have h := h.1 c_3
      refine lv_iload_n hx hb dX12_others_40 rfl (lv_at hl 2 rfl) ?_
      refine lv_bipush (v := (30 : Int32)) hx hb dX12_others_41 (by decide) ?_
      refine lv_icmp_ne (tgt := 51) hx hb dX12_others_43 (by decide) (fun c_4 => ?_) (fun c_4 => ?_)
      · have h := h.1 c_4
        refine lv_iload_n hx hb dX12_others_51 rfl (lv_at hl 0 rfl) ?_
        refine cSI ksX12_254 hC (m_X12_sortOf l x_1 h) rfl rfl ⟨by decide, by decide⟩ rfl hl.1 (Nat.le_of_ble_eq_true rfl) dX12_others_52 ⟨Nat.zero_le _, Nat.zero_le _⟩ rfl ?_
        intro r_5 h
        refine lv_iconst (v := (5 : Int32)) hx hb dX12_others_55 (by decide) ?_
        refine lv_icmp_eq (tgt := 65) hx hb dX12_others_56 (by decide) (fun c_6 => ?_) (fun c_6 => ?_)
        · have h := h.1 c_6
          refine lv_aload_n hx hb dX12_others_65 rfl (lv_at hl 1 rfl) ?_
          refine gt (v := .ref (ad 11)) kfX12_104 0 hC hw rfl rfl dX12_others_66 ?_
          refine lv_iload_n hx hb dX12_others_69 rfl (lv_at hl 0 rfl) ?_
          refine cSI ksX12_180 hC (m_X12_load l x_1 h) rfl rfl ⟨by decide, by decide⟩ rfl hl.1 (Nat.le_of_ble_eq_true rfl) dX12_others_70 ⟨Nat.zero_le _, Nat.zero_le _⟩ rfl ?_
          intro r_7 h
          refine ldI 11 0 hC hw rfl rfl h.1 dX12_others_73 ?_
          have h := h.2
          refine lv_iconst (v := (1 : Int32)) hx hb dX12_others_74 (by decide) ?_
          refine lv_isub hx hb dX12_others_75 ?_
          refine lv_topi (fun x_8 ex_8 => ?_)
          have h := h x_8 ex_8
          refine lv_istore (lv' := [(4, .int x_8), (3, .int x_1), (0, .ref (ad 0)), (1, .int x1), (2, .int x2)]) hx hb dX12_others_76 hl (by decide) rfl (fun ls hl => ?_)
          refine lv_iload_n hx hb dX12_others_78 rfl (lv_at hl 3 rfl) ?_
          refine lv_bipush (v := (28 : Int32)) hx hb dX12_others_79 (by decide) ?_
          refine lv_icmp_ne (tgt := 90) hx hb dX12_others_81 (by decide) (fun c_9 => ?_) (fun c_9 => ?_)
          · have h := h.1 c_9
            refine lv_aload_n hx hb dX12_others_90 rfl (lv_at hl 2 rfl) ?_
            refine gt (v := .ref (ad 23)) kfX12_140 0 hC hw rfl rfl dX12_others_91 ?_
            refine lv_iload_n hx hb dX12_others_94 rfl (lv_at hl 4 rfl) ?_
            refine lv_iconst (v := (1 : Int32)) hx hb dX12_others_95 (by decide) ?_
            refine lv_iadd hx hb dX12_others_96 ?_
            refine ldI 23 0 hC hw rfl rfl h.1 dX12_others_97 ?_
            have h := h.2
            refine cSI ksX12_254 hC (m_X12_sortOf l (g 21 (x2 + (1 : Int32)).toNatClampNeg) h) rfl rfl ⟨by decide, by decide⟩ rfl hl.1 (Nat.le_of_ble_eq_true rfl) dX12_others_98 ⟨Nat.zero_le _, Nat.zero_le _⟩ rfl ?_
            intro r_10 h
            refine lv_iconst (v := (2 : Int32)) hx hb dX12_others_101 (by decide) ?_
            refine lv_icmp_eq (tgt := 111) hx hb dX12_others_102 (by decide) (fun c_11 => ?_) (fun c_11 => ?_)
            · have h := h.1 c_11
              refine lv_aload_n hx hb dX12_others_111 rfl (lv_at hl 2 rfl) ?_
              refine gt (v := .ref (ad 23)) kfX12_140 0 hC hw rfl rfl dX12_others_112 ?_
              refine lv_iload_n hx hb dX12_others_115 rfl (lv_at hl 4 rfl) ?_
              refine lv_iconst (v := (1 : Int32)) hx hb dX12_others_116 (by decide) ?_
              refine lv_iadd hx hb dX12_others_117 ?_
              refine ldI 23 0 hC hw rfl rfl h.1 dX12_others_118 ?_
              have h := h.2
              refine cSI ksX12_385 hC (m_X12_amount l (g 21 (x2 + (1 : Int32)).toNatClampNeg) h) rfl rfl ⟨by decide, by decide⟩ rfl hl.1 (Nat.le_of_ble_eq_true rfl) dX12_others_119 ⟨Nat.zero_le _, Nat.zero_le _⟩ rfl ?_
              intro r_12 h
              refine lv_istore (lv' := [(5, .int r_12), (4, .int x_8), (3, .int x_1), (0, .ref (ad 0)), (1, .int x1), (2, .int x2)]) hx hb dX12_others_122 hl (by decide) rfl (fun ls hl => ?_)
              refine lv_iload hx hb dX12_others_124 (lv_at hl 0 rfl) ?_
              refine lv_if_lt (tgt := 136) hx hb dX12_others_126 (by decide) (fun c_13 => ?_) (fun c_13 => ?_)
              · have h := h.1 c_13
                refine lv_aload_n hx hb dX12_others_136 rfl (lv_at hl 3 rfl) ?_
                refine lv_bipush (v := (6 : Int32)) hx hb dX12_others_137 (by decide) ?_
                refine cVIw (q0 := 0) kmX12_379 hC hw (m_X12_fail l D cI cC cZ cJ ad (6 : Int32) g k h) rfl rfl ⟨by decide, by decide⟩ rfl rfl rfl hl.1 (Nat.le_of_ble_eq_true rfl) dX12_others_139 ⟨Nat.zero_le _, Nat.zero_le _⟩ rfl ?_
                intro r_16 u H locs h hw
                obtain ⟨g_14, k_15⟩ := u
                dsimp only at h hw
                exact rtI (wf := (fun u : St × StL => (wM ad cI cC cZ cJ u.1 u.2))) (g_14, k_15) hC hr hlk hw rfl h dX12_others_142
              · have h := h.2 c_13
                refine lv_iload hx hb dX12_others_129 (lv_at hl 0 rfl) ?_
                refine lv_iload hx hb dX12_others_131 (lv_at hl 1 rfl) ?_
                refine lv_icmp_lt (tgt := 143) hx hb dX12_others_133 (by decide) (fun c_17 => ?_) (fun c_17 => ?_)
                · have h := h.1 c_17
                  refine lv_iload_n hx hb dX12_others_143 rfl (lv_at hl 4 rfl) ?_
                  refine lv_bipush (v := (27 : Int32)) hx hb dX12_others_144 (by decide) ?_
                  refine lv_icmp_ne (tgt := 172) hx hb dX12_others_146 (by decide) (fun c_18 => ?_) (fun c_18 => ?_)
                  · have h := h.1 c_18
                    refine lv_aload_n hx hb dX12_others_172 rfl (lv_at hl 3 rfl) ?_
                    refine gt (v := .ref (ad 12)) kfX12_107 0 hC hw rfl rfl dX12_others_173 ?_
                    refine lv_bipush (v := (8 : Int32)) hx hb dX12_others_176 (by decide) ?_
                    refine lv_iload_n hx hb dX12_others_178 rfl (lv_at hl 2 rfl) ?_
                    refine cSI ksX12_180 hC (m_X12_load l x_1 h) rfl rfl ⟨by decide, by decide⟩ rfl hl.1 (Nat.le_of_ble_eq_true rfl) dX12_others_179 ⟨Nat.zero_le _, Nat.zero_le _⟩ rfl ?_
                    intro r_19 h
                    refine lv_imul hx hb dX12_others_182 ?_
                    refine lv_iload hx hb dX12_others_183 (lv_at hl 0 rfl) ?_
                    refine lv_iadd hx hb dX12_others_185 ?_
                    refine ldI 12 0 hC hw rfl rfl h.1 dX12_others_186 ?_
                    have h := h.2
                    exact rtI (wf := (fun u : St × StL => (wM ad cI cC cZ cJ u.1 u.2))) (g, k) hC hr hlk hw rfl h dX12_others_187
                  · have h := h.2 c_18
                    refine lv_aload_n hx hb dX12_others_149 rfl (lv_at hl 3 rfl) ?_
                    refine gt (v := .ref (ad 12)) kfX12_107 0 hC hw rfl rfl dX12_others_150 ?_
                    refine lv_bipush (v := (8 : Int32)) hx hb dX12_others_153 (by decide) ?_
                    refine lv_iload_n hx hb dX12_others_155 rfl (lv_at hl 2 rfl) ?_
                    refine cSI ksX12_180 hC (m_X12_load l x_1 h) rfl rfl ⟨by decide, by decide⟩ rfl hl.1 (Nat.le_of_ble_eq_true rfl) dX12_others_156 ⟨Nat.zero_le _, Nat.zero_le _⟩ rfl ?_
                    intro r_20 h
                    refine lv_imul hx hb dX12_others_159 ?_
                    refine lv_iload hx hb dX12_others_160 (lv_at hl 0 rfl) ?_
                    refine lv_iadd hx hb dX12_others_162 ?_
                    refine lv_aload_n hx hb dX12_others_163 rfl (lv_at hl 3 rfl) ?_
                    refine gt (v := .ref (ad 23)) kfX12_140 0 hC hw rfl rfl dX12_others_164 ?_
                    refine lv_iload_n hx hb dX12_others_167 rfl (lv_at hl 5 rfl) ?_
                    refine lv_iconst (v := (2 : Int32)) hx hb dX12_others_168 (by decide) ?_
                    refine lv_iadd hx hb dX12_others_169 ?_
                    refine ldI 23 0 hC hw rfl rfl h.1 dX12_others_170 ?_
                    have h := h.2
                    refine swM_12 h.1 hC hw dX12_others_171 (fun H locs g_21 eg_21 hw => ?_)
                    have h := h.2 g_21 eg_21
                    refine lv_aload_n hx hb dX12_others_172 rfl (lv_at hl 3 rfl) ?_
                    refine gt (v := .ref (ad 12)) kfX12_107 0 hC hw rfl rfl dX12_others_173 ?_
                    refine lv_bipush (v := (8 : Int32)) hx hb dX12_others_176 (by decide) ?_
                    refine lv_iload_n hx hb dX12_others_178 rfl (lv_at hl 2 rfl) ?_
                    refine cSI ksX12_180 hC (m_X12_load l x_1 h) rfl rfl ⟨by decide, by decide⟩ rfl hl.1 (Nat.le_of_ble_eq_true rfl) dX12_others_179 ⟨Nat.zero_le _, Nat.zero_le _⟩ rfl ?_
                    intro r_22 h
                    refine lv_imul hx hb dX12_others_182 ?_
                    refine lv_iload hx hb dX12_others_183 (lv_at hl 0 rfl) ?_
                    refine lv_iadd hx hb dX12_others_185 ?_
                    refine ldI 12 0 hC hw rfl rfl h.1 dX12_others_186 ?_
                    have h := h.2
                    exact rtI (wf := (fun u : St × StL => (wM ad cI cC cZ cJ u.1 u.2))) (g_21, k) hC hr hlk hw rfl h dX12_others_187
                · have h := h.2 c_17
                  refine lv_aload_n hx hb dX12_others_136 rfl (lv_at hl 3 rfl) ?_
                  refine lv_bipush (v := (6 : Int32)) hx hb dX12_others_137 (by decide) ?_
                  refine cVIw (q0 := 0) kmX12_379 hC hw (m_X12_fail l D cI cC cZ cJ ad (6 : Int32) g k h) rfl rfl ⟨by decide, by decide⟩ rfl rfl rfl hl.1 (Nat.le_of_ble_eq_true rfl) dX12_others_139 ⟨Nat.zero_le _, Nat.zero_le _⟩ rfl ?_
                  intro r_25 u H locs h hw
                  obtain ⟨g_23, k_24⟩ := u
                  dsimp only at h hw
                  exact rtI (wf := (fun u : St × StL => (wM ad cI cC cZ cJ u.1 u.2))) (g_23, k_24) hC hr hlk hw rfl h dX12_others_142
            · have h := h.2 c_11
              refine lv_aload_n hx hb dX12_others_105 rfl (lv_at hl 2 rfl) ?_
              refine lv_iconst (v := (4 : Int32)) hx hb dX12_others_106 (by decide) ?_
              refine cVIw (q0 := 0) kmX12_379 hC hw (m_X12_fail l D cI cC cZ cJ ad (4 : Int32) g k h) rfl rfl ⟨by decide, by decide⟩ rfl rfl rfl hl.1 (Nat.le_of_ble_eq_true rfl) dX12_others_107 ⟨Nat.zero_le _, Nat.zero_le _⟩ rfl ?_
              intro r_28 u H locs h hw
              obtain ⟨g_26, k_27⟩ := u
              dsimp only at h hw
              exact rtI (wf := (fun u : St × StL => (wM ad cI cC cZ cJ u.1 u.2))) (g_26, k_27) hC hr hlk hw rfl h dX12_others_110
          · have h := h.2 c_9
            refine lv_iload hx hb dX12_others_84 (lv_at hl 0 rfl) ?_
            refine cSI ksX12_214 hC (m_X12_numeral l x_8 h) rfl rfl ⟨by decide, by decide⟩ rfl hl.1 (Nat.le_of_ble_eq_true rfl) dX12_others_86 ⟨Nat.zero_le _, Nat.zero_le _⟩ rfl ?_
            intro r_29 h
            exact rtI (wf := (fun u : St × StL => (wM ad cI cC cZ cJ u.1 u.2))) (g, k) hC hr hlk hw rfl h dX12_others_89
        · have h := h.2 c_6
          refine lv_aload_n hx hb dX12_others_59 rfl (lv_at hl 1 rfl) ?_
          refine lv_iconst (v := (4 : Int32)) hx hb dX12_others_60 (by decide) ?_
          refine cVIw (q0 := 0) kmX12_379 hC hw (m_X12_fail l D cI cC cZ cJ ad (4 : Int32) g k h) rfl rfl ⟨by decide, by decide⟩ rfl rfl rfl hl.1 (Nat.le_of_ble_eq_true rfl) dX12_others_61 ⟨Nat.zero_le _, Nat.zero_le _⟩ rfl ?_
          intro r_32 u H locs h hw
          obtain ⟨g_30, k_31⟩ := u
          dsimp only at h hw
          exact rtI (wf := (fun u : St × StL => (wM ad cI cC cZ cJ u.1 u.2))) (g_30, k_31) hC hr hlk hw rfl h dX12_others_64
      · have h := h.2 c_4
        refine lv_aload_n hx hb dX12_others_46 rfl (lv_at hl 1 rfl) ?_
        refine cVIw (q0 := 0) kmX12_397 hC hw (m_X12_get l D cI cC cZ cJ ad n  g k h) rfl rfl ⟨by decide, by decide⟩ rfl rfl rfl hl.1 (Nat.le_of_ble_eq_true rfl) dX12_others_47 ⟨Nat.zero_le _, Nat.zero_le _⟩ rfl ?_
        intro r_35 u H locs h hw
        obtain ⟨g_33, k_34⟩ := u
        dsimp only at h hw
        exact rtI (wf := (fun u : St × StL => (wM ad cI cC cZ cJ u.1 u.2))) (g_33, k_34) hC hr hlk hw rfl h dX12_others_50
    · have h := h.2 c_3
      refine lv_aload_n hx hb dX12_others_33 rfl (lv_at hl 1 rfl) ?_
      refine lv_iload_n hx hb dX12_others_34 rfl (lv_at hl 0 rfl) ?_
      refine cVVw (q0 := 0) kmX12_394 hC hw (m_X12_print l D cI cC cZ cJ ad n x_1 g k h) rfl rfl ⟨by decide, by decide⟩ rfl rfl rfl hl.1 (Nat.le_of_ble_eq_true rfl) dX12_others_35 ⟨Nat.zero_le _, Nat.zero_le _⟩ rfl ?_
      intro u H locs h hw
      obtain ⟨g_36, k_37⟩ := u
      dsimp only at h hw
      refine lv_iload_n hx hb dX12_others_38 rfl (lv_at hl 0 rfl) ?_
      exact rtI (wf := (fun u : St × StL => (wM ad cI cC cZ cJ u.1 u.2))) (g_36, k_37) hC hr hlk hw rfl h dX12_others_39
  · have h := h.2 c_2
    refine lv_aload_n hx hb dX12_others_13 rfl (lv_at hl 1 rfl) ?_
    refine lv_iload_n hx hb dX12_others_14 rfl (lv_at hl 0 rfl) ?_
    refine lv_aload_n hx hb dX12_others_15 rfl (lv_at hl 1 rfl) ?_
    refine gt (v := .ref (ad 23)) kfX12_140 0 hC hw rfl rfl dX12_others_16 ?_
    refine lv_iload_n hx hb dX12_others_19 rfl (lv_at hl 3 rfl) ?_
    refine lv_iconst (v := (1 : Int32)) hx hb dX12_others_20 (by decide) ?_
    refine lv_iadd hx hb dX12_others_21 ?_
    refine ldI 23 0 hC hw rfl rfl h.1 dX12_others_22 ?_
    have h := h.2
    refine cVIw (q0 := 0) kmX12_391 hC hw (m_X12_vector l D cI cC cZ cJ ad n x_1 (g 21 (x2 + (1 : Int32)).toNatClampNeg) g k h) rfl rfl ⟨by decide, by decide⟩ rfl rfl rfl hl.1 (Nat.le_of_ble_eq_true rfl) dX12_others_23 ⟨Nat.zero_le _, Nat.zero_le _⟩ rfl ?_
    intro r_41 u H locs h hw
    obtain ⟨g_39, k_40⟩ := u
    dsimp only at h hw
    exact rtI (wf := (fun u : St × StL => (wM ad cI cC cZ cJ u.1 u.2))) (g_39, k_40) hC hr hlk hw rfl h dX12_others_26
def V_X12_apply (n : Nat) (x1 : Int32) (g : St) (k : StL) (post : St → StL → Prop) : Prop := (vp_in ((g 0 12) - (1 : Int32)) 1002 ∧ ∀ x_1 : Int32, x_1 = (g 20 ((g 0 12) - (1 : Int32)).toNatClampNeg) → ((¬ x1 = (31 : Int32) → ((¬ x1 = (7 : Int32) → (((15 : Int32) ≤ x1 → (((25 : Int32) ≤ x1 → V_X12_others n x1 x_1 g k (fun r_8 g_6 k_7 => ((¬ (g_6 0 18) = 0 → post g_6 k_7) ∧ ((g_6 0 18) = 0 → V_X12_pop r_8 g_6 k_7 (fun g_10 k_11 => post g_10 k_11))))) ∧ (¬ (25 : Int32) ≤ x1 → (vp_in x_1 1100 ∧ (vp_in (x_1 + (1 : Int32)) 1100 ∧ V_X12_numbers x1 (g 21 x_1.toNatClampNeg) (g 21 (x_1 + (1 : Int32)).toNatClampNeg) g k (fun r_15 g_13 k_14 => ((¬ (g_13 0 18) = 0 → post g_13 k_14) ∧ ((g_13 0 18) = 0 → V_X12_pop r_15 g_13 k_14 (fun g_17 k_18 => post g_17 k_18))))))))) ∧ (¬ (15 : Int32) ≤ x1 → V_X12_lists n x1 x_1 g k (fun r_22 g_20 k_21 => ((¬ (g_20 0 18) = 0 → post g_20 k_21) ∧ ((g_20 0 18) = 0 → V_X12_pop r_22 g_20 k_21 (fun g_24 k_25 => post g_24 k_25))))))) ∧ (x1 = (7 : Int32) → V_X12_cast n x_1 g k (fun g_27 k_28 => post g_27 k_28)))) ∧ (x1 = (31 : Int32) → V_X12_call n x_1 g k (fun g_30 k_31 => post g_30 k_31))))
abbrev RM_X12_apply : Room := { frames := 7, cells := 0, slots := 0, locals := 159 }
set_option maxHeartbeats 4000000 in
set_option maxRecDepth 100000 in
theorem m_X12_apply (l : Launch) (D : va_G) (cI cC cZ cJ : ClassId) (ad : Nat → Nat) (n : Nat) (x1 : Int32) (g : St) (k : StL) {post : St → StL → Prop} (h : V_X12_apply n x1 g k post) : MetV l yX12_apply cX12_apply 4 RM_X12_apply D (ty4 cI cC cZ cJ) (wM ad cI cC cZ cJ g k) [.ref (ad 0), .int x1] (fun u : St × StL => (wM ad cI cC cZ cJ u.1 u.2)) (fun u : St × StL => post u.1 u.2) := by
  refine mkV (by decide) (Nat.le_of_ble_eq_true rfl) ?_
  intro p e s m args below meth c A ls hC hr hlk hw hl
  have hx := hC.1
  have hb := hC.2.1
  have hl : lv_has ls 4 [(0, .ref (ad 0)), (1, .int x1)] := hl
  unfold V_X12_apply at h
  refine lv_aload_n hx hb dX12_apply_0 rfl (lv_at hl 0 rfl) ?_
  refine gt (v := .ref (ad 22)) kfX12_137 0 hC hw rfl rfl dX12_apply_1 ?_
  refine lv_aload_n hx hb dX12_apply_4 rfl (lv_at hl 0 rfl) ?_
  refine gt (v := .int (g 0 12)) kfX12_278 0 hC hw rfl rfl dX12_apply_5 ?_
  refine lv_iconst (v := (1 : Int32)) hx hb dX12_apply_8 (by decide) ?_
  refine lv_isub hx hb dX12_apply_9 ?_
  refine ldI 22 0 hC hw rfl rfl h.1 dX12_apply_10 ?_
  have h := h.2
  refine lv_topi (fun x_1 ex_1 => ?_)
  have h := h x_1 ex_1
  refine lv_istore_n (lv' := [(2, .int x_1), (0, .ref (ad 0)), (1, .int x1)]) hx hb dX12_apply_11 rfl hl (by decide) rfl (fun ls hl => ?_)
  refine lv_iload_n hx hb dX12_apply_12 rfl (lv_at hl 2 rfl) ?_
  refine lv_bipush (v := (31 : Int32)) hx hb dX12_apply_13 (by decide) ?_
  refine lv_icmp_ne (tgt := 26) hx hb dX12_apply_15 (by decide) (fun c_2 => ?_) (fun c_2 => ?_)
  · have h := h.1 c_2
    refine lv_iload_n hx hb dX12_apply_26 rfl (lv_at hl 2 rfl) ?_
    refine lv_bipush (v := (7 : Int32)) hx hb dX12_apply_27 (by decide) ?_
    refine lv_icmp_ne (tgt := 40) hx hb dX12_apply_29 (by decide) (fun c_3 => ?_) (fun c_3 => ?_)
    · have h := h.1 c_3
      refine lv_iload_n hx hb dX12_apply_40 rfl (lv_at hl 2 rfl) ?_
      refine lv_bipush (v := (15 : Int32)) hx hb dX12_apply_41 (by decide) ?_
      refine lv_icmp_ge (tgt := 55) hx hb dX12_apply_43 (by decide) (fun c_4 => ?_) (fun c_4 => ?_)
      · have h := h.1 c_4
        refine lv_iload_n hx hb dX12_apply_55 rfl (lv_at hl 2 rfl) ?_
        refine lv_bipush (v := (25 : Int32)) hx hb dX12_apply_56 (by decide) ?_
        refine lv_icmp_ge (tgt := 83) hx hb dX12_apply_58 (by decide) (fun c_5 => ?_) (fun c_5 => ?_)
        · have h := h.1 c_5
          refine lv_aload_n hx hb dX12_apply_83 rfl (lv_at hl 1 rfl) ?_
          refine lv_iload_n hx hb dX12_apply_84 rfl (lv_at hl 2 rfl) ?_
          refine lv_iload_n hx hb dX12_apply_85 rfl (lv_at hl 0 rfl) ?_
          refine cVIw (q0 := 0) kmX12_372 hC hw (m_X12_others l D cI cC cZ cJ ad n x1 x_1 g k h) rfl rfl ⟨by decide, by decide⟩ rfl rfl rfl hl.1 (Nat.le_of_ble_eq_true rfl) dX12_apply_86 ⟨Nat.zero_le _, Nat.zero_le _⟩ rfl ?_
          intro r_8 u H locs h hw
          obtain ⟨g_6, k_7⟩ := u
          dsimp only at h hw
          refine lv_istore_n (lv' := [(3, .int r_8), (2, .int x_1), (0, .ref (ad 0)), (1, .int x1)]) hx hb dX12_apply_89 rfl hl (by decide) rfl (fun ls hl => ?_)
          refine lv_aload_n hx hb dX12_apply_90 rfl (lv_at hl 2 rfl) ?_
          refine gt (v := .int (g_6 0 18)) kfX12_299 0 hC hw rfl rfl dX12_apply_91 ?_
          refine lv_if_ne (tgt := 102) hx hb dX12_apply_94 (by decide) (fun c_9 => ?_) (fun c_9 => ?_)
          · have h := h.1 c_9
            exact rtV (wf := (fun u : St × StL => (wM ad cI cC cZ cJ u.1 u.2))) (g_6, k_7) hC hr hlk hw h dX12_apply_102
          · have h := h.2 c_9
            refine lv_aload_n hx hb dX12_apply_97 rfl (lv_at hl 2 rfl) ?_
            refine lv_iload_n hx hb dX12_apply_98 rfl (lv_at hl 0 rfl) ?_
            refine cVVw (q0 := 0) kmX12_347 hC hw (m_X12_pop l D cI cC cZ cJ ad r_8 g_6 k_7 h) rfl rfl ⟨by decide, by decide⟩ rfl rfl rfl hl.1 (Nat.le_of_ble_eq_true rfl) dX12_apply_99 ⟨Nat.zero_le _, Nat.zero_le _⟩ rfl ?_
            intro u H locs h hw
            obtain ⟨g_10, k_11⟩ := u
            dsimp only at h hw
            exact rtV (wf := (fun u : St × StL => (wM ad cI cC cZ cJ u.1 u.2))) (g_10, k_11) hC hr hlk hw h dX12_apply_102
        · have h := h.2 c_5
          refine lv_aload_n hx hb dX12_apply_61 rfl (lv_at hl 1 rfl) ?_
          refine lv_iload_n hx hb dX12_apply_62 rfl (lv_at hl 2 rfl) ?_
          refine lv_aload_n hx hb dX12_apply_63 rfl (lv_at hl 1 rfl) ?_
          refine gt (v := .ref (ad 23)) kfX12_140 0 hC hw rfl rfl dX12_apply_64 ?_
          refine lv_iload_n hx hb dX12_apply_67 rfl (lv_at hl 0 rfl) ?_
          refine ldI 23 0 hC hw rfl rfl h.1 dX12_apply_68 ?_
          have h := h.2
          refine lv_aload_n hx hb dX12_apply_69 rfl (lv_at hl 1 rfl) ?_
          refine gt (v := .ref (ad 23)) kfX12_140 0 hC hw rfl rfl dX12_apply_70 ?_
          refine lv_iload_n hx hb dX12_apply_73 rfl (lv_at hl 0 rfl) ?_
          refine lv_iconst (v := (1 : Int32)) hx hb dX12_apply_74 (by decide) ?_
          refine lv_iadd hx hb dX12_apply_75 ?_
          refine ldI 23 0 hC hw rfl rfl h.1 dX12_apply_76 ?_
          have h := h.2
          refine cVIw (q0 := 0) kmX12_368 hC hw (m_X12_numbers l D cI cC cZ cJ ad x1 (g 21 x_1.toNatClampNeg) (g 21 (x_1 + (1 : Int32)).toNatClampNeg) g k h) rfl rfl ⟨by decide, by decide⟩ rfl rfl rfl hl.1 (Nat.le_of_ble_eq_true rfl) dX12_apply_77 ⟨Nat.zero_le _, Nat.zero_le _⟩ rfl ?_
          intro r_15 u H locs h hw
          obtain ⟨g_13, k_14⟩ := u
          dsimp only at h hw
          refine lv_goto (tgt := 89) hx hb dX12_apply_80 (by decide) ?_
          refine lv_istore_n (lv' := [(3, .int r_15), (2, .int x_1), (0, .ref (ad 0)), (1, .int x1)]) hx hb dX12_apply_89 rfl hl (by decide) rfl (fun ls hl => ?_)
          refine lv_aload_n hx hb dX12_apply_90 rfl (lv_at hl 2 rfl) ?_
          refine gt (v := .int (g_13 0 18)) kfX12_299 0 hC hw rfl rfl dX12_apply_91 ?_
          refine lv_if_ne (tgt := 102) hx hb dX12_apply_94 (by decide) (fun c_16 => ?_) (fun c_16 => ?_)
          · have h := h.1 c_16
            exact rtV (wf := (fun u : St × StL => (wM ad cI cC cZ cJ u.1 u.2))) (g_13, k_14) hC hr hlk hw h dX12_apply_102
          · have h := h.2 c_16
            refine lv_aload_n hx hb dX12_apply_97 rfl (lv_at hl 2 rfl) ?_
            refine lv_iload_n hx hb dX12_apply_98 rfl (lv_at hl 0 rfl) ?_
            refine cVVw (q0 := 0) kmX12_347 hC hw (m_X12_pop l D cI cC cZ cJ ad r_15 g_13 k_14 h) rfl rfl ⟨by decide, by decide⟩ rfl rfl rfl hl.1 (Nat.le_of_ble_eq_true rfl) dX12_apply_99 ⟨Nat.zero_le _, Nat.zero_le _⟩ rfl ?_
            intro u H locs h hw
            obtain ⟨g_17, k_18⟩ := u
            dsimp only at h hw
            exact rtV (wf := (fun u : St × StL => (wM ad cI cC cZ cJ u.1 u.2))) (g_17, k_18) hC hr hlk hw h dX12_apply_102
      · have h := h.2 c_4
        refine lv_aload_n hx hb dX12_apply_46 rfl (lv_at hl 1 rfl) ?_
        refine lv_iload_n hx hb dX12_apply_47 rfl (lv_at hl 2 rfl) ?_
        refine lv_iload_n hx hb dX12_apply_48 rfl (lv_at hl 0 rfl) ?_
        refine cVIw (q0 := 0) kmX12_365 hC hw (m_X12_lists l D cI cC cZ cJ ad n x1 x_1 g k h) rfl rfl ⟨by decide, by decide⟩ rfl rfl rfl hl.1 (Nat.le_of_ble_eq_true rfl) dX12_apply_49 ⟨Nat.zero_le _, Nat.zero_le _⟩ rfl ?_
        intro r_22 u H locs h hw
        obtain ⟨g_20, k_21⟩ := u
        dsimp only at h hw
        refine lv_goto (tgt := 89) hx hb dX12_apply_52 (by decide) ?_
        refine lv_istore_n (lv' := [(3, .int r_22), (2, .int x_1), (0, .ref (ad 0)), (1, .int x1)]) hx hb dX12_apply_89 rfl hl (by decide) rfl (fun ls hl => ?_)
        refine lv_aload_n hx hb dX12_apply_90 rfl (lv_at hl 2 rfl) ?_
        refine gt (v := .int (g_20 0 18)) kfX12_299 0 hC hw rfl rfl dX12_apply_91 ?_
        refine lv_if_ne (tgt := 102) hx hb dX12_apply_94 (by decide) (fun c_23 => ?_) (fun c_23 => ?_)
        · have h := h.1 c_23
          exact rtV (wf := (fun u : St × StL => (wM ad cI cC cZ cJ u.1 u.2))) (g_20, k_21) hC hr hlk hw h dX12_apply_102
        · have h := h.2 c_23
          refine lv_aload_n hx hb dX12_apply_97 rfl (lv_at hl 2 rfl) ?_
          refine lv_iload_n hx hb dX12_apply_98 rfl (lv_at hl 0 rfl) ?_
          refine cVVw (q0 := 0) kmX12_347 hC hw (m_X12_pop l D cI cC cZ cJ ad r_22 g_20 k_21 h) rfl rfl ⟨by decide, by decide⟩ rfl rfl rfl hl.1 (Nat.le_of_ble_eq_true rfl) dX12_apply_99 ⟨Nat.zero_le _, Nat.zero_le _⟩ rfl ?_
          intro u H locs h hw
          obtain ⟨g_24, k_25⟩ := u
          dsimp only at h hw
          exact rtV (wf := (fun u : St × StL => (wM ad cI cC cZ cJ u.1 u.2))) (g_24, k_25) hC hr hlk hw h dX12_apply_102
    · have h := h.2 c_3
      refine lv_aload_n hx hb dX12_apply_32 rfl (lv_at hl 1 rfl) ?_
      refine lv_iload_n hx hb dX12_apply_33 rfl (lv_at hl 0 rfl) ?_
      refine cVVw (q0 := 0) kmX12_362 hC hw (m_X12_cast l D cI cC cZ cJ ad n x_1 g k h) rfl rfl ⟨by decide, by decide⟩ rfl rfl rfl hl.1 (Nat.le_of_ble_eq_true rfl) dX12_apply_34 ⟨Nat.zero_le _, Nat.zero_le _⟩ rfl ?_
      intro u H locs h hw
      obtain ⟨g_27, k_28⟩ := u
      dsimp only at h hw
      refine lv_goto (tgt := 102) hx hb dX12_apply_37 (by decide) ?_
      exact rtV (wf := (fun u : St × StL => (wM ad cI cC cZ cJ u.1 u.2))) (g_27, k_28) hC hr hlk hw h dX12_apply_102
  · have h := h.2 c_2
    refine lv_aload_n hx hb dX12_apply_18 rfl (lv_at hl 1 rfl) ?_
    refine lv_iload_n hx hb dX12_apply_19 rfl (lv_at hl 0 rfl) ?_
    refine cVVw (q0 := 0) kmX12_359 hC hw (m_X12_call l D cI cC cZ cJ ad n x_1 g k h) rfl rfl ⟨by decide, by decide⟩ rfl rfl rfl hl.1 (Nat.le_of_ble_eq_true rfl) dX12_apply_20 ⟨Nat.zero_le _, Nat.zero_le _⟩ rfl ?_
    intro u H locs h hw
    obtain ⟨g_30, k_31⟩ := u
    dsimp only at h hw
    refine lv_goto (tgt := 102) hx hb dX12_apply_23 (by decide) ?_
    exact rtV (wf := (fun u : St × StL => (wM ad cI cC cZ cJ u.1 u.2))) (g_30, k_31) hC hr hlk hw h dX12_apply_102
def V_X12_resume_33 (post : St → StL → Prop) (n : Nat) (x1 : Int32) (y0 : Int32) (g : St) (k : StL) : Prop := ((x1 = (1 : Int32) → V_X12_choose  g k (fun g_2 k_3 => post g_2 k_3)) ∧ (x1 = (2 : Int32) → ((y0 = 0 → V_X12_next  g k (fun g_6 k_7 => post g_6 k_7)) ∧ (¬ y0 = 0 → V_X12_pop (g 0 16) g k (fun g_9 k_10 => post g_9 k_10)))) ∧ (x1 = (3 : Int32) → V_X12_assign n  g k (fun g_12 k_13 => post g_12 k_13)) ∧ (x1 = (4 : Int32) → V_X12_again  g k (fun g_15 k_16 => post g_15 k_16)) ∧ (x1 = (6 : Int32) → (vp_in ((g 0 12) - (1 : Int32)) 1002 ∧ ((¬ (g 18 ((g 0 12) - (1 : Int32)).toNatClampNeg) = 0 → ((y0 = 0 → V_X12_next  g k (fun g_20 k_21 => post g_20 k_21)) ∧ (¬ y0 = 0 → V_X12_pop (g 0 16) g k (fun g_23 k_24 => post g_23 k_24)))) ∧ ((g 18 ((g 0 12) - (1 : Int32)).toNatClampNeg) = 0 → (vp_in ((g 0 12) - (1 : Int32)) 1002 ∧ ∀ g_26 : St, g_26 = up g 18 ((g 0 12) - (1 : Int32)).toNatClampNeg (1 : Int32) → (vp_in (g_26 0 13) 1100 ∧ ∀ g_27 : St, g_27 = up g_26 21 (g_26 0 13).toNatClampNeg (g_26 0 16) → ∀ g_28 : St, g_28 = us g_27 13 ((g_27 0 13) + (1 : Int32)) → ∀ g_29 : St, g_29 = us g_28 16 (1048576 : Int32) → ((y0 = 0 → V_X12_next  g_29 k (fun g_31 k_32 => post g_31 k_32)) ∧ (¬ y0 = 0 → V_X12_pop (g_29 0 16) g_29 k (fun g_34 k_35 => post g_34 k_35))))))))) ∧ (x1 = (32 : Int32) → ((y0 = 0 → V_X12_next  g k (fun g_38 k_39 => post g_38 k_39)) ∧ (¬ y0 = 0 → V_X12_pop (g 0 16) g k (fun g_41 k_42 => post g_41 k_42)))) ∧ (¬ x1 = (1 : Int32) → ¬ x1 = (2 : Int32) → ¬ x1 = (3 : Int32) → ¬ x1 = (4 : Int32) → ¬ x1 = (6 : Int32) → ¬ x1 = (32 : Int32) → (vp_in (g 0 13) 1100 ∧ ∀ g_44 : St, g_44 = up g 21 (g 0 13).toNatClampNeg (g 0 16) → ∀ g_45 : St, g_45 = us g_44 13 ((g_44 0 13) + (1 : Int32)) → ((y0 = 0 → V_X12_next  g_45 k (fun g_47 k_48 => post g_47 k_48)) ∧ (¬ y0 = 0 → V_X12_apply n x1 g_45 k (fun g_50 k_51 => post g_50 k_51))))))
def V_X12_resume (n : Nat) (g : St) (k : StL) (post : St → StL → Prop) : Prop := (vp_in ((g 0 12) - (1 : Int32)) 1002 ∧ ∀ x_53 : Int32, x_53 = (g 15 ((g 0 12) - (1 : Int32)).toNatClampNeg) → (vp_in ((g 0 12) - (1 : Int32)) 1002 ∧ ((¬ (g 17 ((g 0 12) - (1 : Int32)).toNatClampNeg) = (1048576 : Int32) → V_X12_resume_33 post n x_53 (0 : Int32) g k) ∧ ((g 17 ((g 0 12) - (1 : Int32)).toNatClampNeg) = (1048576 : Int32) → V_X12_resume_33 post n x_53 (1 : Int32) g k))))
abbrev RM_X12_resume : Room := { frames := 8, cells := 0, slots := 0, locals := 182 }
set_option maxHeartbeats 4000000 in
set_option maxRecDepth 100000 in
theorem m_X12_resume (l : Launch) (D : va_G) (cI cC cZ cJ : ClassId) (ad : Nat → Nat) (n : Nat) (g : St) (k : StL) {post : St → StL → Prop} (h : V_X12_resume n g k post) : MetV l yX12_resume cX12_resume 3 RM_X12_resume D (ty4 cI cC cZ cJ) (wM ad cI cC cZ cJ g k) [.ref (ad 0)] (fun u : St × StL => (wM ad cI cC cZ cJ u.1 u.2)) (fun u : St × StL => post u.1 u.2) := by
  refine mkV (by decide) (Nat.le_of_ble_eq_true rfl) ?_
  intro p e s m args below meth c A ls hC hr hlk hw hl
  have hx := hC.1
  have hb := hC.2.1
  have hl : lv_has ls 3 [(0, .ref (ad 0))] := hl
  have w_33 : ∀ (n : Nat) (x1 : Int32) (y0 : Int32) (g : St) (k : StL) (H : Heap) (locs : List Loc) (ls : Array Slot), V_X12_resume_33 post n x1 y0 g k → Wd D (ty4 cI cC cZ cJ) A s (wM ad cI cC cZ cJ g k) H locs → lv_has ls 3 [(0, .ref (ad 0)), (1, .int x1)] → W p l e RM_X12_resume s m args below meth c H locs 0 0 (QV below D (ty4 cI cC cZ cJ) A args s (fun u : St × StL => (wM ad cI cC cZ cJ u.1 u.2)) (fun u : St × StL => post u.1 u.2)) (F0 m 33 ls [.int y0]) := by
    intro n x1 y0 g k H locs ls h hw hl
    unfold V_X12_resume_33 at h
    refine lv_istore_n (lv' := [(2, .int y0), (0, .ref (ad 0)), (1, .int x1)]) hx hb dX12_resume_33 rfl hl (by decide) rfl (fun ls hl => ?_)
    refine lv_iload_n hx hb dX12_resume_34 rfl (lv_at hl 2 rfl) ?_
    by_cases c_1_1 : x1 = (1 : Int32)
    · refine lv_lookup (off := 57) (tgt := 92) hx hb dX12_resume_35 (by decide) (by rw [c_1_1]; decide) (by decide) ?_
      have h := h.1 c_1_1
      refine lv_aload_n hx hb dX12_resume_92 rfl (lv_at hl 1 rfl) ?_
      refine cVVw (q0 := 0) kmX12_350 hC hw (m_X12_choose l D cI cC cZ cJ ad  g k h) rfl rfl ⟨by decide, by decide⟩ rfl rfl rfl hl.1 (Nat.le_of_ble_eq_true rfl) dX12_resume_93 ⟨Nat.zero_le _, Nat.zero_le _⟩ rfl ?_
      intro u H locs h hw
      obtain ⟨g_2, k_3⟩ := u
      dsimp only at h hw
      refine lv_goto (tgt := 251) hx hb dX12_resume_96 (by decide) ?_
      exact rtV (wf := (fun u : St × StL => (wM ad cI cC cZ cJ u.1 u.2))) (g_2, k_3) hC hr hlk hw h dX12_resume_251
    have h := h.2
    by_cases c_1_2 : x1 = (2 : Int32)
    · refine lv_lookup (off := 64) (tgt := 99) hx hb dX12_resume_35 (by decide) (by rw [c_1_2]; decide) (by decide) ?_
      have h := h.1 c_1_2
      refine lv_iload_n hx hb dX12_resume_99 rfl (lv_at hl 0 rfl) ?_
      refine lv_if_eq (tgt := 114) hx hb dX12_resume_100 (by decide) (fun c_5 => ?_) (fun c_5 => ?_)
      · have h := h.1 c_5
        refine lv_aload_n hx hb dX12_resume_114 rfl (lv_at hl 1 rfl) ?_
        refine cVVw (q0 := 0) kmX12_341 hC hw (m_X12_next l D cI cC cZ cJ ad  g k h) rfl rfl ⟨by decide, by decide⟩ rfl rfl rfl hl.1 (Nat.le_of_ble_eq_true rfl) dX12_resume_115 ⟨Nat.zero_le _, Nat.zero_le _⟩ rfl ?_
        intro u H locs h hw
        obtain ⟨g_6, k_7⟩ := u
        dsimp only at h hw
        refine lv_goto (tgt := 251) hx hb dX12_resume_118 (by decide) ?_
        exact rtV (wf := (fun u : St × StL => (wM ad cI cC cZ cJ u.1 u.2))) (g_6, k_7) hC hr hlk hw h dX12_resume_251
      · have h := h.2 c_5
        refine lv_aload_n hx hb dX12_resume_103 rfl (lv_at hl 1 rfl) ?_
        refine lv_aload_n hx hb dX12_resume_104 rfl (lv_at hl 1 rfl) ?_
        refine gt (v := .int (g 0 16)) kfX12_311 0 hC hw rfl rfl dX12_resume_105 ?_
        refine cVVw (q0 := 0) kmX12_347 hC hw (m_X12_pop l D cI cC cZ cJ ad (g 0 16) g k h) rfl rfl ⟨by decide, by decide⟩ rfl rfl rfl hl.1 (Nat.le_of_ble_eq_true rfl) dX12_resume_108 ⟨Nat.zero_le _, Nat.zero_le _⟩ rfl ?_
        intro u H locs h hw
        obtain ⟨g_9, k_10⟩ := u
        dsimp only at h hw
        refine lv_goto (tgt := 251) hx hb dX12_resume_111 (by decide) ?_
        exact rtV (wf := (fun u : St × StL => (wM ad cI cC cZ cJ u.1 u.2))) (g_9, k_10) hC hr hlk hw h dX12_resume_251
    have h := h.2
    by_cases c_1_3 : x1 = (3 : Int32)
    · refine lv_lookup (off := 86) (tgt := 121) hx hb dX12_resume_35 (by decide) (by rw [c_1_3]; decide) (by decide) ?_
      have h := h.1 c_1_3
      refine lv_aload_n hx hb dX12_resume_121 rfl (lv_at hl 1 rfl) ?_
      refine cVVw (q0 := 0) kmX12_353 hC hw (m_X12_assign l D cI cC cZ cJ ad n  g k h) rfl rfl ⟨by decide, by decide⟩ rfl rfl rfl hl.1 (Nat.le_of_ble_eq_true rfl) dX12_resume_122 ⟨Nat.zero_le _, Nat.zero_le _⟩ rfl ?_
      intro u H locs h hw
      obtain ⟨g_12, k_13⟩ := u
      dsimp only at h hw
      refine lv_goto (tgt := 251) hx hb dX12_resume_125 (by decide) ?_
      exact rtV (wf := (fun u : St × StL => (wM ad cI cC cZ cJ u.1 u.2))) (g_12, k_13) hC hr hlk hw h dX12_resume_251
    have h := h.2
    by_cases c_1_4 : x1 = (4 : Int32)
    · refine lv_lookup (off := 93) (tgt := 128) hx hb dX12_resume_35 (by decide) (by rw [c_1_4]; decide) (by decide) ?_
      have h := h.1 c_1_4
      refine lv_aload_n hx hb dX12_resume_128 rfl (lv_at hl 1 rfl) ?_
      refine cVVw (q0 := 0) kmX12_356 hC hw (m_X12_again l D cI cC cZ cJ ad  g k h) rfl rfl ⟨by decide, by decide⟩ rfl rfl rfl hl.1 (Nat.le_of_ble_eq_true rfl) dX12_resume_129 ⟨Nat.zero_le _, Nat.zero_le _⟩ rfl ?_
      intro u H locs h hw
      obtain ⟨g_15, k_16⟩ := u
      dsimp only at h hw
      refine lv_goto (tgt := 251) hx hb dX12_resume_132 (by decide) ?_
      exact rtV (wf := (fun u : St × StL => (wM ad cI cC cZ cJ u.1 u.2))) (g_15, k_16) hC hr hlk hw h dX12_resume_251
    have h := h.2
    by_cases c_1_6 : x1 = (6 : Int32)
    · refine lv_lookup (off := 100) (tgt := 135) hx hb dX12_resume_35 (by decide) (by rw [c_1_6]; decide) (by decide) ?_
      have h := h.1 c_1_6
      refine lv_aload_n hx hb dX12_resume_135 rfl (lv_at hl 1 rfl) ?_
      refine gt (v := .ref (ad 20)) kfX12_131 0 hC hw rfl rfl dX12_resume_136 ?_
      refine lv_aload_n hx hb dX12_resume_139 rfl (lv_at hl 1 rfl) ?_
      refine gt (v := .int (g 0 12)) kfX12_278 0 hC hw rfl rfl dX12_resume_140 ?_
      refine lv_iconst (v := (1 : Int32)) hx hb dX12_resume_143 (by decide) ?_
      refine lv_isub hx hb dX12_resume_144 ?_
      refine ldI 20 0 hC hw rfl rfl h.1 dX12_resume_145 ?_
      have h := h.2
      refine lv_if_ne (tgt := 190) hx hb dX12_resume_146 (by decide) (fun c_18 => ?_) (fun c_18 => ?_)
      · have h := h.1 c_18
        refine lv_iload_n hx hb dX12_resume_190 rfl (lv_at hl 0 rfl) ?_
        refine lv_if_eq (tgt := 205) hx hb dX12_resume_191 (by decide) (fun c_19 => ?_) (fun c_19 => ?_)
        · have h := h.1 c_19
          refine lv_aload_n hx hb dX12_resume_205 rfl (lv_at hl 1 rfl) ?_
          refine cVVw (q0 := 0) kmX12_341 hC hw (m_X12_next l D cI cC cZ cJ ad  g k h) rfl rfl ⟨by decide, by decide⟩ rfl rfl rfl hl.1 (Nat.le_of_ble_eq_true rfl) dX12_resume_206 ⟨Nat.zero_le _, Nat.zero_le _⟩ rfl ?_
          intro u H locs h hw
          obtain ⟨g_20, k_21⟩ := u
          dsimp only at h hw
          refine lv_goto (tgt := 251) hx hb dX12_resume_209 (by decide) ?_
          exact rtV (wf := (fun u : St × StL => (wM ad cI cC cZ cJ u.1 u.2))) (g_20, k_21) hC hr hlk hw h dX12_resume_251
        · have h := h.2 c_19
          refine lv_aload_n hx hb dX12_resume_194 rfl (lv_at hl 1 rfl) ?_
          refine lv_aload_n hx hb dX12_resume_195 rfl (lv_at hl 1 rfl) ?_
          refine gt (v := .int (g 0 16)) kfX12_311 0 hC hw rfl rfl dX12_resume_196 ?_
          refine cVVw (q0 := 0) kmX12_347 hC hw (m_X12_pop l D cI cC cZ cJ ad (g 0 16) g k h) rfl rfl ⟨by decide, by decide⟩ rfl rfl rfl hl.1 (Nat.le_of_ble_eq_true rfl) dX12_resume_199 ⟨Nat.zero_le _, Nat.zero_le _⟩ rfl ?_
          intro u H locs h hw
          obtain ⟨g_23, k_24⟩ := u
          dsimp only at h hw
          refine lv_goto (tgt := 251) hx hb dX12_resume_202 (by decide) ?_
          exact rtV (wf := (fun u : St × StL => (wM ad cI cC cZ cJ u.1 u.2))) (g_23, k_24) hC hr hlk hw h dX12_resume_251
      · have h := h.2 c_18
        refine lv_aload_n hx hb dX12_resume_149 rfl (lv_at hl 1 rfl) ?_
        refine gt (v := .ref (ad 20)) kfX12_131 0 hC hw rfl rfl dX12_resume_150 ?_
        refine lv_aload_n hx hb dX12_resume_153 rfl (lv_at hl 1 rfl) ?_
        refine gt (v := .int (g 0 12)) kfX12_278 0 hC hw rfl rfl dX12_resume_154 ?_
        refine lv_iconst (v := (1 : Int32)) hx hb dX12_resume_157 (by decide) ?_
        refine lv_isub hx hb dX12_resume_158 ?_
        refine lv_iconst (v := (1 : Int32)) hx hb dX12_resume_159 (by decide) ?_
        refine swM_20 h.1 hC hw dX12_resume_160 (fun H locs g_26 eg_26 hw => ?_)
        have h := h.2 g_26 eg_26
        refine lv_aload_n hx hb dX12_resume_161 rfl (lv_at hl 1 rfl) ?_
        refine gt (v := .ref (ad 23)) kfX12_140 0 hC hw rfl rfl dX12_resume_162 ?_
        refine lv_aload_n hx hb dX12_resume_165 rfl (lv_at hl 1 rfl) ?_
        refine gt (v := .int (g_26 0 13)) kfX12_275 0 hC hw rfl rfl dX12_resume_166 ?_
        refine lv_aload_n hx hb dX12_resume_169 rfl (lv_at hl 1 rfl) ?_
        refine gt (v := .int (g_26 0 16)) kfX12_311 0 hC hw rfl rfl dX12_resume_170 ?_
        refine swM_23 h.1 hC hw dX12_resume_173 (fun H locs g_27 eg_27 hw => ?_)
        have h := h.2 g_27 eg_27
        refine lv_aload_n hx hb dX12_resume_174 rfl (lv_at hl 1 rfl) ?_
        refine lv_dup hx hb dX12_resume_175 rfl ?_
        refine gt (v := .int (g_27 0 13)) kfX12_275 0 hC hw rfl rfl dX12_resume_176 ?_
        refine lv_iconst (v := (1 : Int32)) hx hb dX12_resume_179 (by decide) ?_
        refine lv_iadd hx hb dX12_resume_180 ?_
        refine pwM_37 kpX12_275 hC hw dX12_resume_181 (fun H locs g_28 eg_28 hw => ?_)
        have h := h g_28 eg_28
        refine lv_aload_n hx hb dX12_resume_184 rfl (lv_at hl 1 rfl) ?_
        refine lv_ldc (v := (1048576 : Int32)) hx hb hC.2.2.2.1 (hC.2.2.2.2 _ (List.mem_cons_of_mem _ kcX12_184)) dX12_resume_185 ?_
        refine pwM_40 kpX12_311 hC hw dX12_resume_187 (fun H locs g_29 eg_29 hw => ?_)
        have h := h g_29 eg_29
        refine lv_iload_n hx hb dX12_resume_190 rfl (lv_at hl 0 rfl) ?_
        refine lv_if_eq (tgt := 205) hx hb dX12_resume_191 (by decide) (fun c_30 => ?_) (fun c_30 => ?_)
        · have h := h.1 c_30
          refine lv_aload_n hx hb dX12_resume_205 rfl (lv_at hl 1 rfl) ?_
          refine cVVw (q0 := 0) kmX12_341 hC hw (m_X12_next l D cI cC cZ cJ ad  g_29 k h) rfl rfl ⟨by decide, by decide⟩ rfl rfl rfl hl.1 (Nat.le_of_ble_eq_true rfl) dX12_resume_206 ⟨Nat.zero_le _, Nat.zero_le _⟩ rfl ?_
          intro u H locs h hw
          obtain ⟨g_31, k_32⟩ := u
          dsimp only at h hw
          refine lv_goto (tgt := 251) hx hb dX12_resume_209 (by decide) ?_
          exact rtV (wf := (fun u : St × StL => (wM ad cI cC cZ cJ u.1 u.2))) (g_31, k_32) hC hr hlk hw h dX12_resume_251
        · have h := h.2 c_30
          refine lv_aload_n hx hb dX12_resume_194 rfl (lv_at hl 1 rfl) ?_
          refine lv_aload_n hx hb dX12_resume_195 rfl (lv_at hl 1 rfl) ?_
          refine gt (v := .int (g_29 0 16)) kfX12_311 0 hC hw rfl rfl dX12_resume_196 ?_
          refine cVVw (q0 := 0) kmX12_347 hC hw (m_X12_pop l D cI cC cZ cJ ad (g_29 0 16) g_29 k h) rfl rfl ⟨by decide, by decide⟩ rfl rfl rfl hl.1 (Nat.le_of_ble_eq_true rfl) dX12_resume_199 ⟨Nat.zero_le _, Nat.zero_le _⟩ rfl ?_
          intro u H locs h hw
          obtain ⟨g_34, k_35⟩ := u
          dsimp only at h hw
          refine lv_goto (tgt := 251) hx hb dX12_resume_202 (by decide) ?_
          exact rtV (wf := (fun u : St × StL => (wM ad cI cC cZ cJ u.1 u.2))) (g_34, k_35) hC hr hlk hw h dX12_resume_251
    have h := h.2
    by_cases c_1_32 : x1 = (32 : Int32)
    · refine lv_lookup (off := 64) (tgt := 99) hx hb dX12_resume_35 (by decide) (by rw [c_1_32]; decide) (by decide) ?_
      have h := h.1 c_1_32
      refine lv_iload_n hx hb dX12_resume_99 rfl (lv_at hl 0 rfl) ?_
      refine lv_if_eq (tgt := 114) hx hb dX12_resume_100 (by decide) (fun c_37 => ?_) (fun c_37 => ?_)
      · have h := h.1 c_37
        refine lv_aload_n hx hb dX12_resume_114 rfl (lv_at hl 1 rfl) ?_
        refine cVVw (q0 := 0) kmX12_341 hC hw (m_X12_next l D cI cC cZ cJ ad  g k h) rfl rfl ⟨by decide, by decide⟩ rfl rfl rfl hl.1 (Nat.le_of_ble_eq_true rfl) dX12_resume_115 ⟨Nat.zero_le _, Nat.zero_le _⟩ rfl ?_
        intro u H locs h hw
        obtain ⟨g_38, k_39⟩ := u
        dsimp only at h hw
        refine lv_goto (tgt := 251) hx hb dX12_resume_118 (by decide) ?_
        exact rtV (wf := (fun u : St × StL => (wM ad cI cC cZ cJ u.1 u.2))) (g_38, k_39) hC hr hlk hw h dX12_resume_251
      · have h := h.2 c_37
        refine lv_aload_n hx hb dX12_resume_103 rfl (lv_at hl 1 rfl) ?_
        refine lv_aload_n hx hb dX12_resume_104 rfl (lv_at hl 1 rfl) ?_
        refine gt (v := .int (g 0 16)) kfX12_311 0 hC hw rfl rfl dX12_resume_105 ?_
        refine cVVw (q0 := 0) kmX12_347 hC hw (m_X12_pop l D cI cC cZ cJ ad (g 0 16) g k h) rfl rfl ⟨by decide, by decide⟩ rfl rfl rfl hl.1 (Nat.le_of_ble_eq_true rfl) dX12_resume_108 ⟨Nat.zero_le _, Nat.zero_le _⟩ rfl ?_
        intro u H locs h hw
        obtain ⟨g_41, k_42⟩ := u
        dsimp only at h hw
        refine lv_goto (tgt := 251) hx hb dX12_resume_111 (by decide) ?_
        exact rtV (wf := (fun u : St × StL => (wM ad cI cC cZ cJ u.1 u.2))) (g_41, k_42) hC hr hlk hw h dX12_resume_251
    have h := h.2
    refine lv_lookup (off := 177) (tgt := 212) hx hb dX12_resume_35 (by decide) (by refine (lv_osw c_1_1 (by decide)).trans ?_; refine (lv_osw c_1_2 (by decide)).trans ?_; refine (lv_osw c_1_3 (by decide)).trans ?_; refine (lv_osw c_1_4 (by decide)).trans ?_; refine (lv_osw c_1_6 (by decide)).trans ?_; refine (lv_osw c_1_32 (by decide)).trans ?_; rfl) (by decide) ?_
    have h := h c_1_1 c_1_2 c_1_3 c_1_4 c_1_6 c_1_32
    refine lv_aload_n hx hb dX12_resume_212 rfl (lv_at hl 1 rfl) ?_
    refine gt (v := .ref (ad 23)) kfX12_140 0 hC hw rfl rfl dX12_resume_213 ?_
    refine lv_aload_n hx hb dX12_resume_216 rfl (lv_at hl 1 rfl) ?_
    refine gt (v := .int (g 0 13)) kfX12_275 0 hC hw rfl rfl dX12_resume_217 ?_
    refine lv_aload_n hx hb dX12_resume_220 rfl (lv_at hl 1 rfl) ?_
    refine gt (v := .int (g 0 16)) kfX12_311 0 hC hw rfl rfl dX12_resume_221 ?_
    refine swM_23 h.1 hC hw dX12_resume_224 (fun H locs g_44 eg_44 hw => ?_)
    have h := h.2 g_44 eg_44
    refine lv_aload_n hx hb dX12_resume_225 rfl (lv_at hl 1 rfl) ?_
    refine lv_dup hx hb dX12_resume_226 rfl ?_
    refine gt (v := .int (g_44 0 13)) kfX12_275 0 hC hw rfl rfl dX12_resume_227 ?_
    refine lv_iconst (v := (1 : Int32)) hx hb dX12_resume_230 (by decide) ?_
    refine lv_iadd hx hb dX12_resume_231 ?_
    refine pwM_37 kpX12_275 hC hw dX12_resume_232 (fun H locs g_45 eg_45 hw => ?_)
    have h := h g_45 eg_45
    refine lv_iload_n hx hb dX12_resume_235 rfl (lv_at hl 0 rfl) ?_
    refine lv_if_eq (tgt := 247) hx hb dX12_resume_236 (by decide) (fun c_46 => ?_) (fun c_46 => ?_)
    · have h := h.1 c_46
      refine lv_aload_n hx hb dX12_resume_247 rfl (lv_at hl 1 rfl) ?_
      refine cVVw (q0 := 0) kmX12_341 hC hw (m_X12_next l D cI cC cZ cJ ad  g_45 k h) rfl rfl ⟨by decide, by decide⟩ rfl rfl rfl hl.1 (Nat.le_of_ble_eq_true rfl) dX12_resume_248 ⟨Nat.zero_le _, Nat.zero_le _⟩ rfl ?_
      intro u H locs h hw
      obtain ⟨g_47, k_48⟩ := u
      dsimp only at h hw
      exact rtV (wf := (fun u : St × StL => (wM ad cI cC cZ cJ u.1 u.2))) (g_47, k_48) hC hr hlk hw h dX12_resume_251
    · have h := h.2 c_46
      refine lv_aload_n hx hb dX12_resume_239 rfl (lv_at hl 1 rfl) ?_
      refine lv_iload_n hx hb dX12_resume_240 rfl (lv_at hl 2 rfl) ?_
      refine cVVw (q0 := 0) kmX12_344 hC hw (m_X12_apply l D cI cC cZ cJ ad n x1 g_45 k h) rfl rfl ⟨by decide, by decide⟩ rfl rfl rfl hl.1 (Nat.le_of_ble_eq_true rfl) dX12_resume_241 ⟨Nat.zero_le _, Nat.zero_le _⟩ rfl ?_
      intro u H locs h hw
      obtain ⟨g_50, k_51⟩ := u
      dsimp only at h hw
      refine lv_goto (tgt := 251) hx hb dX12_resume_244 (by decide) ?_
      exact rtV (wf := (fun u : St × StL => (wM ad cI cC cZ cJ u.1 u.2))) (g_50, k_51) hC hr hlk hw h dX12_resume_251
  unfold V_X12_resume at h
  refine lv_aload_n hx hb dX12_resume_0 rfl (lv_at hl 0 rfl) ?_
  refine gt (v := .ref (ad 17)) kfX12_122 0 hC hw rfl rfl dX12_resume_1 ?_
  refine lv_aload_n hx hb dX12_resume_4 rfl (lv_at hl 0 rfl) ?_
  refine gt (v := .int (g 0 12)) kfX12_278 0 hC hw rfl rfl dX12_resume_5 ?_
  refine lv_iconst (v := (1 : Int32)) hx hb dX12_resume_8 (by decide) ?_
  refine lv_isub hx hb dX12_resume_9 ?_
  refine ldI 17 0 hC hw rfl rfl h.1 dX12_resume_10 ?_
  have h := h.2
  refine lv_topi (fun x_53 ex_53 => ?_)
  have h := h x_53 ex_53
  refine lv_istore_n (lv' := [(1, .int x_53), (0, .ref (ad 0))]) hx hb dX12_resume_11 rfl hl (by decide) rfl (fun ls hl => ?_)
  refine lv_aload_n hx hb dX12_resume_12 rfl (lv_at hl 1 rfl) ?_
  refine gt (v := .ref (ad 19)) kfX12_128 0 hC hw rfl rfl dX12_resume_13 ?_
  refine lv_aload_n hx hb dX12_resume_16 rfl (lv_at hl 1 rfl) ?_
  refine gt (v := .int (g 0 12)) kfX12_278 0 hC hw rfl rfl dX12_resume_17 ?_
  refine lv_iconst (v := (1 : Int32)) hx hb dX12_resume_20 (by decide) ?_
  refine lv_isub hx hb dX12_resume_21 ?_
  refine ldI 19 0 hC hw rfl rfl h.1 dX12_resume_22 ?_
  have h := h.2
  refine lv_ldc (v := (1048576 : Int32)) hx hb hC.2.2.2.1 (hC.2.2.2.2 _ (List.mem_cons_of_mem _ kcX12_184)) dX12_resume_23 ?_
  refine lv_icmp_ne (tgt := 32) hx hb dX12_resume_25 (by decide) (fun c_54 => ?_) (fun c_54 => ?_)
  · have h := h.1 c_54
    refine lv_iconst (v := (0 : Int32)) hx hb dX12_resume_32 (by decide) ?_
    exact w_33 n x_53 (0 : Int32) g k _ _ _ h hw (lv_sub hl [1, 0] rfl)
  · have h := h.2 c_54
    refine lv_iconst (v := (1 : Int32)) hx hb dX12_resume_28 (by decide) ?_
    refine lv_goto (tgt := 33) hx hb dX12_resume_29 (by decide) ?_
    exact w_33 n x_53 (1 : Int32) g k _ _ _ h hw (lv_sub hl [1, 0] rfl)
def V_X12_push (x1 : Int32) (x2 : Int32) (g : St) (k : StL) (post : St → StL → Prop) : Prop := (vp_in (g 0 12) 1002 ∧ ∀ g_1 : St, g_1 = up g 15 (g 0 12).toNatClampNeg x1 → (vp_in (g_1 0 12) 1002 ∧ ∀ g_2 : St, g_2 = up g_1 16 (g_1 0 12).toNatClampNeg (g_1 0 14) → (vp_in (g_2 0 12) 1002 ∧ ∀ g_3 : St, g_3 = up g_2 17 (g_2 0 12).toNatClampNeg x2 → (vp_in (g_3 0 12) 1002 ∧ ∀ g_4 : St, g_4 = up g_3 18 (g_3 0 12).toNatClampNeg (0 : Int32) → (vp_in (g_4 0 12) 1002 ∧ ∀ g_5 : St, g_5 = up g_4 19 (g_4 0 12).toNatClampNeg (g_4 0 15) → (vp_in (g_5 0 12) 1002 ∧ ∀ g_6 : St, g_6 = up g_5 20 (g_5 0 12).toNatClampNeg (g_5 0 13) → ∀ g_7 : St, g_7 = us g_6 12 ((g_6 0 12) + (1 : Int32)) → post g_7 k))))))
abbrev RM_X12_push : Room := { frames := 0, cells := 0, slots := 0, locals := 0 }
set_option maxHeartbeats 4000000 in
set_option maxRecDepth 100000 in
theorem m_X12_push (l : Launch) (D : va_G) (cI cC cZ cJ : ClassId) (ad : Nat → Nat) (x1 : Int32) (x2 : Int32) (g : St) (k : StL) {post : St → StL → Prop} (h : V_X12_push x1 x2 g k post) : MetV l yX12_push cX12_push 3 RM_X12_push D (ty4 cI cC cZ cJ) (wM ad cI cC cZ cJ g k) [.ref (ad 0), .int x1, .int x2] (fun u : St × StL => (wM ad cI cC cZ cJ u.1 u.2)) (fun u : St × StL => post u.1 u.2) := by
  refine mkV (by decide) (Nat.le_of_ble_eq_true rfl) ?_
  intro p e s m args below meth c A ls hC hr hlk hw hl
  have hx := hC.1
  have hb := hC.2.1
  have hl : lv_has ls 3 [(0, .ref (ad 0)), (1, .int x1), (2, .int x2)] := hl
  unfold V_X12_push at h
  refine lv_aload_n hx hb dX12_push_0 rfl (lv_at hl 0 rfl) ?_
  refine gt (v := .ref (ad 17)) kfX12_122 0 hC hw rfl rfl dX12_push_1 ?_
  refine lv_aload_n hx hb dX12_push_4 rfl (lv_at hl 0 rfl) ?_
  refine gt (v := .int (g 0 12)) kfX12_278 0 hC hw rfl rfl dX12_push_5 ?_
  refine lv_iload_n hx hb dX12_push_8 rfl (lv_at hl 1 rfl) ?_
  refine swM_17 h.1 hC hw dX12_push_9 (fun H locs g_1 eg_1 hw => ?_)
  have h := h.2 g_1 eg_1
  refine lv_aload_n hx hb dX12_push_10 rfl (lv_at hl 0 rfl) ?_
  refine gt (v := .ref (ad 18)) kfX12_125 0 hC hw rfl rfl dX12_push_11 ?_
  refine lv_aload_n hx hb dX12_push_14 rfl (lv_at hl 0 rfl) ?_
  refine gt (v := .int (g_1 0 12)) kfX12_278 0 hC hw rfl rfl dX12_push_15 ?_
  refine lv_aload_n hx hb dX12_push_18 rfl (lv_at hl 0 rfl) ?_
  refine gt (v := .int (g_1 0 14)) kfX12_302 0 hC hw rfl rfl dX12_push_19 ?_
  refine swM_18 h.1 hC hw dX12_push_22 (fun H locs g_2 eg_2 hw => ?_)
  have h := h.2 g_2 eg_2
  refine lv_aload_n hx hb dX12_push_23 rfl (lv_at hl 0 rfl) ?_
  refine gt (v := .ref (ad 19)) kfX12_128 0 hC hw rfl rfl dX12_push_24 ?_
  refine lv_aload_n hx hb dX12_push_27 rfl (lv_at hl 0 rfl) ?_
  refine gt (v := .int (g_2 0 12)) kfX12_278 0 hC hw rfl rfl dX12_push_28 ?_
  refine lv_iload_n hx hb dX12_push_31 rfl (lv_at hl 2 rfl) ?_
  refine swM_19 h.1 hC hw dX12_push_32 (fun H locs g_3 eg_3 hw => ?_)
  have h := h.2 g_3 eg_3
  refine lv_aload_n hx hb dX12_push_33 rfl (lv_at hl 0 rfl) ?_
  refine gt (v := .ref (ad 20)) kfX12_131 0 hC hw rfl rfl dX12_push_34 ?_
  refine lv_aload_n hx hb dX12_push_37 rfl (lv_at hl 0 rfl) ?_
  refine gt (v := .int (g_3 0 12)) kfX12_278 0 hC hw rfl rfl dX12_push_38 ?_
  refine lv_iconst (v := (0 : Int32)) hx hb dX12_push_41 (by decide) ?_
  refine swM_20 h.1 hC hw dX12_push_42 (fun H locs g_4 eg_4 hw => ?_)
  have h := h.2 g_4 eg_4
  refine lv_aload_n hx hb dX12_push_43 rfl (lv_at hl 0 rfl) ?_
  refine gt (v := .ref (ad 21)) kfX12_134 0 hC hw rfl rfl dX12_push_44 ?_
  refine lv_aload_n hx hb dX12_push_47 rfl (lv_at hl 0 rfl) ?_
  refine gt (v := .int (g_4 0 12)) kfX12_278 0 hC hw rfl rfl dX12_push_48 ?_
  refine lv_aload_n hx hb dX12_push_51 rfl (lv_at hl 0 rfl) ?_
  refine gt (v := .int (g_4 0 15)) kfX12_305 0 hC hw rfl rfl dX12_push_52 ?_
  refine swM_21 h.1 hC hw dX12_push_55 (fun H locs g_5 eg_5 hw => ?_)
  have h := h.2 g_5 eg_5
  refine lv_aload_n hx hb dX12_push_56 rfl (lv_at hl 0 rfl) ?_
  refine gt (v := .ref (ad 22)) kfX12_137 0 hC hw rfl rfl dX12_push_57 ?_
  refine lv_aload_n hx hb dX12_push_60 rfl (lv_at hl 0 rfl) ?_
  refine gt (v := .int (g_5 0 12)) kfX12_278 0 hC hw rfl rfl dX12_push_61 ?_
  refine lv_aload_n hx hb dX12_push_64 rfl (lv_at hl 0 rfl) ?_
  refine gt (v := .int (g_5 0 13)) kfX12_275 0 hC hw rfl rfl dX12_push_65 ?_
  refine swM_22 h.1 hC hw dX12_push_68 (fun H locs g_6 eg_6 hw => ?_)
  have h := h.2 g_6 eg_6
  refine lv_aload_n hx hb dX12_push_69 rfl (lv_at hl 0 rfl) ?_
  refine lv_dup hx hb dX12_push_70 rfl ?_
  refine gt (v := .int (g_6 0 12)) kfX12_278 0 hC hw rfl rfl dX12_push_71 ?_
  refine lv_iconst (v := (1 : Int32)) hx hb dX12_push_74 (by decide) ?_
  refine lv_iadd hx hb dX12_push_75 ?_
  refine pwM_36 kpX12_278 hC hw dX12_push_76 (fun H locs g_7 eg_7 hw => ?_)
  have h := h g_7 eg_7
  exact rtV (wf := (fun u : St × StL => (wM ad cI cC cZ cJ u.1 u.2))) (g_7, k) hC hr hlk hw h dX12_push_79
def V_X12_nothing (n : Nat) (x1 : Int32) (g : St) (k : StL) (post : St → StL → Prop) : Prop := ((x1 = (13 : Int32) → V_X12_apply n x1 g k (fun g_2 k_3 => post g_2 k_3)) ∧ (¬ x1 = (13 : Int32) → ((¬ x1 = (30 : Int32) → V_X12_pop (1048576 : Int32) g k (fun g_6 k_7 => post g_6 k_7)) ∧ (x1 = (30 : Int32) → V_X12_apply n x1 g k (fun g_9 k_10 => post g_9 k_10)))))
abbrev RM_X12_nothing : Room := { frames := 8, cells := 0, slots := 0, locals := 182 }
set_option maxHeartbeats 4000000 in
set_option maxRecDepth 100000 in
theorem m_X12_nothing (l : Launch) (D : va_G) (cI cC cZ cJ : ClassId) (ad : Nat → Nat) (n : Nat) (x1 : Int32) (g : St) (k : StL) {post : St → StL → Prop} (h : V_X12_nothing n x1 g k post) : MetV l yX12_nothing cX12_nothing 2 RM_X12_nothing D (ty4 cI cC cZ cJ) (wM ad cI cC cZ cJ g k) [.ref (ad 0), .int x1] (fun u : St × StL => (wM ad cI cC cZ cJ u.1 u.2)) (fun u : St × StL => post u.1 u.2) := by
  refine mkV (by decide) (Nat.le_of_ble_eq_true rfl) ?_
  intro p e s m args below meth c A ls hC hr hlk hw hl
  have hx := hC.1
  have hb := hC.2.1
  have hl : lv_has ls 2 [(0, .ref (ad 0)), (1, .int x1)] := hl
  unfold V_X12_nothing at h
  refine lv_iload_n hx hb dX12_nothing_0 rfl (lv_at hl 1 rfl) ?_
  refine lv_bipush (v := (13 : Int32)) hx hb dX12_nothing_1 (by decide) ?_
  refine lv_icmp_eq (tgt := 12) hx hb dX12_nothing_3 (by decide) (fun c_1 => ?_) (fun c_1 => ?_)
  · have h := h.1 c_1
    refine lv_aload_n hx hb dX12_nothing_12 rfl (lv_at hl 0 rfl) ?_
    refine lv_iload_n hx hb dX12_nothing_13 rfl (lv_at hl 1 rfl) ?_
    refine cVVw (q0 := 0) kmX12_344 hC hw (m_X12_apply l D cI cC cZ cJ ad n x1 g k h) rfl rfl ⟨by decide, by decide⟩ rfl rfl rfl hl.1 (Nat.le_of_ble_eq_true rfl) dX12_nothing_14 ⟨Nat.zero_le _, Nat.zero_le _⟩ rfl ?_
    intro u H locs h hw
    obtain ⟨g_2, k_3⟩ := u
    dsimp only at h hw
    refine lv_goto (tgt := 26) hx hb dX12_nothing_17 (by decide) ?_
    exact rtV (wf := (fun u : St × StL => (wM ad cI cC cZ cJ u.1 u.2))) (g_2, k_3) hC hr hlk hw h dX12_nothing_26
  · have h := h.2 c_1
    refine lv_iload_n hx hb dX12_nothing_6 rfl (lv_at hl 1 rfl) ?_
    refine lv_bipush (v := (30 : Int32)) hx hb dX12_nothing_7 (by decide) ?_
    refine lv_icmp_ne (tgt := 20) hx hb dX12_nothing_9 (by decide) (fun c_5 => ?_) (fun c_5 => ?_)
    · have h := h.1 c_5
      refine lv_aload_n hx hb dX12_nothing_20 rfl (lv_at hl 0 rfl) ?_
      refine lv_ldc (v := (1048576 : Int32)) hx hb hC.2.2.2.1 (hC.2.2.2.2 _ (List.mem_cons_of_mem _ kcX12_184)) dX12_nothing_21 ?_
      refine cVVw (q0 := 0) kmX12_347 hC hw (m_X12_pop l D cI cC cZ cJ ad (1048576 : Int32) g k h) rfl rfl ⟨by decide, by decide⟩ rfl rfl rfl hl.1 (Nat.le_of_ble_eq_true rfl) dX12_nothing_23 ⟨Nat.zero_le _, Nat.zero_le _⟩ rfl ?_
      intro u H locs h hw
      obtain ⟨g_6, k_7⟩ := u
      dsimp only at h hw
      exact rtV (wf := (fun u : St × StL => (wM ad cI cC cZ cJ u.1 u.2))) (g_6, k_7) hC hr hlk hw h dX12_nothing_26
    · have h := h.2 c_5
      refine lv_aload_n hx hb dX12_nothing_12 rfl (lv_at hl 0 rfl) ?_
      refine lv_iload_n hx hb dX12_nothing_13 rfl (lv_at hl 1 rfl) ?_
      refine cVVw (q0 := 0) kmX12_344 hC hw (m_X12_apply l D cI cC cZ cJ ad n x1 g k h) rfl rfl ⟨by decide, by decide⟩ rfl rfl rfl hl.1 (Nat.le_of_ble_eq_true rfl) dX12_nothing_14 ⟨Nat.zero_le _, Nat.zero_le _⟩ rfl ?_
      intro u H locs h hw
      obtain ⟨g_9, k_10⟩ := u
      dsimp only at h hw
      refine lv_goto (tgt := 26) hx hb dX12_nothing_17 (by decide) ?_
      exact rtV (wf := (fun u : St × StL => (wM ad cI cC cZ cJ u.1 u.2))) (g_9, k_10) hC hr hlk hw h dX12_nothing_26
def V_X12_begin_21 (post : St → StL → Prop) (n : Nat) (x1 : Int32) (y0 : Int32) (g : St) (k : StL) : Prop := ((¬ x1 = 0 → ((¬ x1 = (5 : Int32) → ((¬ x1 = (3 : Int32) → V_X12_push x1 y0 g k (fun g_4 k_5 => ((¬ y0 = (1048576 : Int32) → V_X12_next  g_4 k_5 (fun g_8 k_9 => post g_8 k_9)) ∧ (y0 = (1048576 : Int32) → V_X12_nothing n x1 g_4 k_5 (fun g_11 k_12 => post g_11 k_12))))) ∧ (x1 = (3 : Int32) → V_X12_cdr y0 g k (fun r_16 g_14 k_15 => V_X12_push x1 r_16 g_14 k_15 (fun g_17 k_18 => ((¬ y0 = (1048576 : Int32) → V_X12_next  g_17 k_18 (fun g_21 k_22 => post g_21 k_22)) ∧ (y0 = (1048576 : Int32) → V_X12_nothing n x1 g_17 k_18 (fun g_24 k_25 => post g_24 k_25)))))))) ∧ (x1 = (5 : Int32) → V_X12_room n (2 : Int32) g k (fun r_29 g_27 k_28 => ((¬ r_29 = 0 → V_X12_make n (3 : Int32) (2 : Int32) g_27 k_28 (fun r_33 g_31 k_32 => (vp_in ((8 : Int32) * r_33) 1344 ∧ ∀ g_34 : St, g_34 = up g_31 10 ((8 : Int32) * r_33).toNatClampNeg y0 → (vp_in (((8 : Int32) * r_33) + (1 : Int32)) 1344 ∧ ∀ g_35 : St, g_35 = up g_34 10 (((8 : Int32) * r_33) + (1 : Int32)).toNatClampNeg (g_34 0 15) → V_X12_code (6 : Int32) r_33 (fun r_36 => ∀ g_37 : St, g_37 = us g_35 16 r_36 → post g_37 k_32))))) ∧ (r_29 = 0 → post g_27 k_28)))))) ∧ (x1 = 0 → V_X12_car y0 g k (fun r_40 g_38 k_39 => ∀ g_41 : St, g_41 = us g_38 16 r_40 → post g_41 k_39)))
def V_X12_begin (n : Nat) (x1 : Int32) (g : St) (k : StL) (post : St → StL → Prop) : Prop := ((¬ x1 = (31 : Int32) → V_X12_cdr (g 0 14) g k (fun r_45 g_43 k_44 => V_X12_begin_21 post n x1 r_45 g_43 k_44)) ∧ (x1 = (31 : Int32) → V_X12_begin_21 post n x1 (g 0 14) g k))
abbrev RM_X12_begin : Room := { frames := 9, cells := 0, slots := 0, locals := 203 }
set_option maxHeartbeats 4000000 in
set_option maxRecDepth 100000 in
theorem m_X12_begin (l : Launch) (D : va_G) (cI cC cZ cJ : ClassId) (ad : Nat → Nat) (n : Nat) (x1 : Int32) (g : St) (k : StL) {post : St → StL → Prop} (h : V_X12_begin n x1 g k post) : MetV l yX12_begin cX12_begin 4 RM_X12_begin D (ty4 cI cC cZ cJ) (wM ad cI cC cZ cJ g k) [.ref (ad 0), .int x1] (fun u : St × StL => (wM ad cI cC cZ cJ u.1 u.2)) (fun u : St × StL => post u.1 u.2) := by
  refine mkV (by decide) (Nat.le_of_ble_eq_true rfl) ?_
  intro p e s m args below meth c A ls hC hr hlk hw hl
  have hx := hC.1
  have hb := hC.2.1
  have hl : lv_has ls 4 [(0, .ref (ad 0)), (1, .int x1)] := hl
  have w_21 : ∀ (n : Nat) (x1 : Int32) (y0 : Int32) (g : St) (k : StL) (H : Heap) (locs : List Loc) (ls : Array Slot), V_X12_begin_21 post n x1 y0 g k → Wd D (ty4 cI cC cZ cJ) A s (wM ad cI cC cZ cJ g k) H locs → lv_has ls 4 [(0, .ref (ad 0)), (1, .int x1)] → W p l e RM_X12_begin s m args below meth c H locs 0 0 (QV below D (ty4 cI cC cZ cJ) A args s (fun u : St × StL => (wM ad cI cC cZ cJ u.1 u.2)) (fun u : St × StL => post u.1 u.2)) (F0 m 21 ls [.int y0]) := by
    intro n x1 y0 g k H locs ls h hw hl
    unfold V_X12_begin_21 at h
    refine lv_istore_n (lv' := [(2, .int y0), (0, .ref (ad 0)), (1, .int x1)]) hx hb dX12_begin_21 rfl hl (by decide) rfl (fun ls hl => ?_)
    refine lv_iload_n hx hb dX12_begin_22 rfl (lv_at hl 2 rfl) ?_
    refine lv_if_ne (tgt := 38) hx hb dX12_begin_23 (by decide) (fun c_1 => ?_) (fun c_1 => ?_)
    · have h := h.1 c_1
      refine lv_iload_n hx hb dX12_begin_38 rfl (lv_at hl 2 rfl) ?_
      refine lv_iconst (v := (5 : Int32)) hx hb dX12_begin_39 (by decide) ?_
      refine lv_icmp_ne (tgt := 97) hx hb dX12_begin_40 (by decide) (fun c_2 => ?_) (fun c_2 => ?_)
      · have h := h.1 c_2
        refine lv_aload_n hx hb dX12_begin_97 rfl (lv_at hl 1 rfl) ?_
        refine lv_iload_n hx hb dX12_begin_98 rfl (lv_at hl 2 rfl) ?_
        refine lv_iload_n hx hb dX12_begin_99 rfl (lv_at hl 2 rfl) ?_
        refine lv_iconst (v := (3 : Int32)) hx hb dX12_begin_100 (by decide) ?_
        refine lv_icmp_ne (tgt := 112) hx hb dX12_begin_101 (by decide) (fun c_3 => ?_) (fun c_3 => ?_)
        · have h := h.1 c_3
          refine lv_iload_n hx hb dX12_begin_112 rfl (lv_at hl 0 rfl) ?_
          refine cVVw (q0 := 0) kmX12_335 hC hw (m_X12_push l D cI cC cZ cJ ad x1 y0 g k h) rfl rfl ⟨by decide, by decide⟩ rfl rfl rfl hl.1 (Nat.le_of_ble_eq_true rfl) dX12_begin_113 ⟨Nat.zero_le _, Nat.zero_le _⟩ rfl ?_
          intro u H locs h hw
          obtain ⟨g_4, k_5⟩ := u
          dsimp only at h hw
          refine lv_iload_n hx hb dX12_begin_116 rfl (lv_at hl 0 rfl) ?_
          refine lv_ldc (v := (1048576 : Int32)) hx hb hC.2.2.2.1 (hC.2.2.2.2 _ (List.mem_cons_of_mem _ kcX12_184)) dX12_begin_117 ?_
          refine lv_icmp_ne (tgt := 130) hx hb dX12_begin_119 (by decide) (fun c_7 => ?_) (fun c_7 => ?_)
          · have h := h.1 c_7
            refine lv_aload_n hx hb dX12_begin_130 rfl (lv_at hl 1 rfl) ?_
            refine cVVw (q0 := 0) kmX12_341 hC hw (m_X12_next l D cI cC cZ cJ ad  g_4 k_5 h) rfl rfl ⟨by decide, by decide⟩ rfl rfl rfl hl.1 (Nat.le_of_ble_eq_true rfl) dX12_begin_131 ⟨Nat.zero_le _, Nat.zero_le _⟩ rfl ?_
            intro u H locs h hw
            obtain ⟨g_8, k_9⟩ := u
            dsimp only at h hw
            exact rtV (wf := (fun u : St × StL => (wM ad cI cC cZ cJ u.1 u.2))) (g_8, k_9) hC hr hlk hw h dX12_begin_134
          · have h := h.2 c_7
            refine lv_aload_n hx hb dX12_begin_122 rfl (lv_at hl 1 rfl) ?_
            refine lv_iload_n hx hb dX12_begin_123 rfl (lv_at hl 2 rfl) ?_
            refine cVVw (q0 := 0) kmX12_338 hC hw (m_X12_nothing l D cI cC cZ cJ ad n x1 g_4 k_5 h) rfl rfl ⟨by decide, by decide⟩ rfl rfl rfl hl.1 (Nat.le_of_ble_eq_true rfl) dX12_begin_124 ⟨Nat.zero_le _, Nat.zero_le _⟩ rfl ?_
            intro u H locs h hw
            obtain ⟨g_11, k_12⟩ := u
            dsimp only at h hw
            refine lv_goto (tgt := 134) hx hb dX12_begin_127 (by decide) ?_
            exact rtV (wf := (fun u : St × StL => (wM ad cI cC cZ cJ u.1 u.2))) (g_11, k_12) hC hr hlk hw h dX12_begin_134
        · have h := h.2 c_3
          refine lv_aload_n hx hb dX12_begin_104 rfl (lv_at hl 1 rfl) ?_
          refine lv_iload_n hx hb dX12_begin_105 rfl (lv_at hl 0 rfl) ?_
          refine cVIw (q0 := 0) kmX12_251 hC hw (m_X12_cdr l D cI cC cZ cJ ad y0 g k h) rfl rfl ⟨by decide, by decide⟩ rfl rfl rfl hl.1 (Nat.le_of_ble_eq_true rfl) dX12_begin_106 ⟨Nat.zero_le _, Nat.zero_le _⟩ rfl ?_
          intro r_16 u H locs h hw
          obtain ⟨g_14, k_15⟩ := u
          dsimp only at h hw
          refine lv_goto (tgt := 113) hx hb dX12_begin_109 (by decide) ?_
          refine cVVw (q0 := 0) kmX12_335 hC hw (m_X12_push l D cI cC cZ cJ ad x1 r_16 g_14 k_15 h) rfl rfl ⟨by decide, by decide⟩ rfl rfl rfl hl.1 (Nat.le_of_ble_eq_true rfl) dX12_begin_113 ⟨Nat.zero_le _, Nat.zero_le _⟩ rfl ?_
          intro u H locs h hw
          obtain ⟨g_17, k_18⟩ := u
          dsimp only at h hw
          refine lv_iload_n hx hb dX12_begin_116 rfl (lv_at hl 0 rfl) ?_
          refine lv_ldc (v := (1048576 : Int32)) hx hb hC.2.2.2.1 (hC.2.2.2.2 _ (List.mem_cons_of_mem _ kcX12_184)) dX12_begin_117 ?_
          refine lv_icmp_ne (tgt := 130) hx hb dX12_begin_119 (by decide) (fun c_20 => ?_) (fun c_20 => ?_)
          · have h := h.1 c_20
            refine lv_aload_n hx hb dX12_begin_130 rfl (lv_at hl 1 rfl) ?_
            refine cVVw (q0 := 0) kmX12_341 hC hw (m_X12_next l D cI cC cZ cJ ad  g_17 k_18 h) rfl rfl ⟨by decide, by decide⟩ rfl rfl rfl hl.1 (Nat.le_of_ble_eq_true rfl) dX12_begin_131 ⟨Nat.zero_le _, Nat.zero_le _⟩ rfl ?_
            intro u H locs h hw
            obtain ⟨g_21, k_22⟩ := u
            dsimp only at h hw
            exact rtV (wf := (fun u : St × StL => (wM ad cI cC cZ cJ u.1 u.2))) (g_21, k_22) hC hr hlk hw h dX12_begin_134
          · have h := h.2 c_20
            refine lv_aload_n hx hb dX12_begin_122 rfl (lv_at hl 1 rfl) ?_
            refine lv_iload_n hx hb dX12_begin_123 rfl (lv_at hl 2 rfl) ?_
            refine cVVw (q0 := 0) kmX12_338 hC hw (m_X12_nothing l D cI cC cZ cJ ad n x1 g_17 k_18 h) rfl rfl ⟨by decide, by decide⟩ rfl rfl rfl hl.1 (Nat.le_of_ble_eq_true rfl) dX12_begin_124 ⟨Nat.zero_le _, Nat.zero_le _⟩ rfl ?_
            intro u H locs h hw
            obtain ⟨g_24, k_25⟩ := u
            dsimp only at h hw
            refine lv_goto (tgt := 134) hx hb dX12_begin_127 (by decide) ?_
            exact rtV (wf := (fun u : St × StL => (wM ad cI cC cZ cJ u.1 u.2))) (g_24, k_25) hC hr hlk hw h dX12_begin_134
      · have h := h.2 c_2
        refine lv_aload_n hx hb dX12_begin_43 rfl (lv_at hl 1 rfl) ?_
        refine lv_iconst (v := (2 : Int32)) hx hb dX12_begin_44 (by decide) ?_
        refine cVIw (q0 := 0) kmX12_329 hC hw (m_X12_room l D cI cC cZ cJ ad n (2 : Int32) g k h) rfl rfl ⟨by decide, by decide⟩ rfl rfl rfl hl.1 (Nat.le_of_ble_eq_true rfl) dX12_begin_45 ⟨Nat.zero_le _, Nat.zero_le _⟩ rfl ?_
        intro r_29 u H locs h hw
        obtain ⟨g_27, k_28⟩ := u
        dsimp only at h hw
        refine lv_if_ne (tgt := 52) hx hb dX12_begin_48 (by decide) (fun c_30 => ?_) (fun c_30 => ?_)
        · have h := h.1 c_30
          refine lv_aload_n hx hb dX12_begin_52 rfl (lv_at hl 1 rfl) ?_
          refine lv_iconst (v := (3 : Int32)) hx hb dX12_begin_53 (by decide) ?_
          refine lv_iconst (v := (2 : Int32)) hx hb dX12_begin_54 (by decide) ?_
          refine cVIw (q0 := 0) kmX12_332 hC hw (m_X12_make l D cI cC cZ cJ ad n (3 : Int32) (2 : Int32) g_27 k_28 h) rfl rfl ⟨by decide, by decide⟩ rfl rfl rfl hl.1 (Nat.le_of_ble_eq_true rfl) dX12_begin_55 ⟨Nat.zero_le _, Nat.zero_le _⟩ rfl ?_
          intro r_33 u H locs h hw
          obtain ⟨g_31, k_32⟩ := u
          dsimp only at h hw
          refine lv_istore_n (lv' := [(3, .int r_33), (2, .int y0), (0, .ref (ad 0)), (1, .int x1)]) hx hb dX12_begin_58 rfl hl (by decide) rfl (fun ls hl => ?_)
          refine lv_aload_n hx hb dX12_begin_59 rfl (lv_at hl 2 rfl) ?_
          refine gt (v := .ref (ad 12)) kfX12_107 0 hC hw rfl rfl dX12_begin_60 ?_
          refine lv_bipush (v := (8 : Int32)) hx hb dX12_begin_63 (by decide) ?_
          refine lv_iload_n hx hb dX12_begin_65 rfl (lv_at hl 0 rfl) ?_
          refine lv_imul hx hb dX12_begin_66 ?_
          refine lv_iload_n hx hb dX12_begin_67 rfl (lv_at hl 1 rfl) ?_
          refine swM_12 h.1 hC hw dX12_begin_68 (fun H locs g_34 eg_34 hw => ?_)
          have h := h.2 g_34 eg_34
          refine lv_aload_n hx hb dX12_begin_69 rfl (lv_at hl 2 rfl) ?_
          refine gt (v := .ref (ad 12)) kfX12_107 0 hC hw rfl rfl dX12_begin_70 ?_
          refine lv_bipush (v := (8 : Int32)) hx hb dX12_begin_73 (by decide) ?_
          refine lv_iload_n hx hb dX12_begin_75 rfl (lv_at hl 0 rfl) ?_
          refine lv_imul hx hb dX12_begin_76 ?_
          refine lv_iconst (v := (1 : Int32)) hx hb dX12_begin_77 (by decide) ?_
          refine lv_iadd hx hb dX12_begin_78 ?_
          refine lv_aload_n hx hb dX12_begin_79 rfl (lv_at hl 2 rfl) ?_
          refine gt (v := .int (g_34 0 15)) kfX12_305 0 hC hw rfl rfl dX12_begin_80 ?_
          refine swM_12 h.1 hC hw dX12_begin_83 (fun H locs g_35 eg_35 hw => ?_)
          have h := h.2 g_35 eg_35
          refine lv_aload_n hx hb dX12_begin_84 rfl (lv_at hl 2 rfl) ?_
          refine lv_bipush (v := (6 : Int32)) hx hb dX12_begin_85 (by decide) ?_
          refine lv_iload_n hx hb dX12_begin_87 rfl (lv_at hl 0 rfl) ?_
          refine cSI ksX12_171 hC (m_X12_code l (6 : Int32) r_33 h) rfl rfl ⟨by decide, by decide⟩ rfl hl.1 (Nat.le_of_ble_eq_true rfl) dX12_begin_88 ⟨Nat.zero_le _, Nat.zero_le _⟩ rfl ?_
          intro r_36 h
          refine pwM_40 kpX12_311 hC hw dX12_begin_91 (fun H locs g_37 eg_37 hw => ?_)
          have h := h g_37 eg_37
          refine lv_goto (tgt := 134) hx hb dX12_begin_94 (by decide) ?_
          exact rtV (wf := (fun u : St × StL => (wM ad cI cC cZ cJ u.1 u.2))) (g_37, k_32) hC hr hlk hw h dX12_begin_134
        · have h := h.2 c_30
          exact rtV (wf := (fun u : St × StL => (wM ad cI cC cZ cJ u.1 u.2))) (g_27, k_28) hC hr hlk hw h dX12_begin_51
    · have h := h.2 c_1
      refine lv_aload_n hx hb dX12_begin_26 rfl (lv_at hl 1 rfl) ?_
      refine lv_aload_n hx hb dX12_begin_27 rfl (lv_at hl 1 rfl) ?_
      refine lv_iload_n hx hb dX12_begin_28 rfl (lv_at hl 0 rfl) ?_
      refine cVIw (q0 := 0) kmX12_260 hC hw (m_X12_car l D cI cC cZ cJ ad y0 g k h) rfl rfl ⟨by decide, by decide⟩ rfl rfl rfl hl.1 (Nat.le_of_ble_eq_true rfl) dX12_begin_29 ⟨Nat.zero_le _, Nat.zero_le _⟩ rfl ?_
      intro r_40 u H locs h hw
      obtain ⟨g_38, k_39⟩ := u
      dsimp only at h hw
      refine pwM_40 kpX12_311 hC hw dX12_begin_32 (fun H locs g_41 eg_41 hw => ?_)
      have h := h g_41 eg_41
      refine lv_goto (tgt := 134) hx hb dX12_begin_35 (by decide) ?_
      exact rtV (wf := (fun u : St × StL => (wM ad cI cC cZ cJ u.1 u.2))) (g_41, k_39) hC hr hlk hw h dX12_begin_134
  unfold V_X12_begin at h
  refine lv_iload_n hx hb dX12_begin_0 rfl (lv_at hl 1 rfl) ?_
  refine lv_bipush (v := (31 : Int32)) hx hb dX12_begin_1 (by decide) ?_
  refine lv_icmp_ne (tgt := 13) hx hb dX12_begin_3 (by decide) (fun c_42 => ?_) (fun c_42 => ?_)
  · have h := h.1 c_42
    refine lv_aload_n hx hb dX12_begin_13 rfl (lv_at hl 0 rfl) ?_
    refine lv_aload_n hx hb dX12_begin_14 rfl (lv_at hl 0 rfl) ?_
    refine gt (v := .int (g 0 14)) kfX12_302 0 hC hw rfl rfl dX12_begin_15 ?_
    refine cVIw (q0 := 0) kmX12_251 hC hw (m_X12_cdr l D cI cC cZ cJ ad (g 0 14) g k h) rfl rfl ⟨by decide, by decide⟩ rfl rfl rfl hl.1 (Nat.le_of_ble_eq_true rfl) dX12_begin_18 ⟨Nat.zero_le _, Nat.zero_le _⟩ rfl ?_
    intro r_45 u H locs h hw
    obtain ⟨g_43, k_44⟩ := u
    dsimp only at h hw
    exact w_21 n x1 r_45 g_43 k_44 _ _ _ h hw (lv_sub hl [0, 1] rfl)
  · have h := h.2 c_42
    refine lv_aload_n hx hb dX12_begin_6 rfl (lv_at hl 0 rfl) ?_
    refine gt (v := .int (g 0 14)) kfX12_302 0 hC hw rfl rfl dX12_begin_7 ?_
    refine lv_goto (tgt := 21) hx hb dX12_begin_10 (by decide) ?_
    exact w_21 n x1 (g 0 14) g k _ _ _ h hw (lv_sub hl [0, 1] rfl)
def V_X12_evaluate_89 (post : St → StL → Prop) (n : Nat) (x1 : Int32) (x2 : Int32) (g : St) (k : StL) : Prop := ((0 ≤ x2 → (vp_in x2 1344 ∧ ∀ g_2 : St, g_2 = us g 16 (g 10 x2.toNatClampNeg) → ((¬ x1 = (4 : Int32) → post g_2 k) ∧ (x1 = (4 : Int32) → V_X12_opOf (g_2 0 14) g_2 k (fun r_6 g_4 k_5 => V_X12_begin n r_6 g_4 k_5 (fun g_7 k_8 => post g_7 k_8)))))) ∧ (¬ 0 ≤ x2 → V_X12_load (g 0 14) (fun r_10 => (vp_in r_10 40 ∧ ∀ g_11 : St, g_11 = us g 16 (g 3 r_10.toNatClampNeg) → ((¬ x1 = (4 : Int32) → post g_11 k) ∧ (x1 = (4 : Int32) → V_X12_opOf (g_11 0 14) g_11 k (fun r_15 g_13 k_14 => V_X12_begin n r_15 g_13 k_14 (fun g_16 k_17 => post g_16 k_17))))))))
def V_X12_evaluate (n : Nat) (g : St) (k : StL) (post : St → StL → Prop) : Prop := ((¬ (g 0 19) = (1000 : Int32) → ∀ g_20 : St, g_20 = us g 19 ((g 0 19) + (1 : Int32)) → V_X12_sortOf (g_20 0 14) (fun r_21 => ∀ g_22 : St, g_22 = us g_20 17 (1 : Int32) → ∀ g_23 : St, g_23 = us g_22 16 (g_22 0 14) → ((¬ r_21 = (3 : Int32) → ((¬ r_21 = (4 : Int32) → post g_23 k) ∧ (r_21 = (4 : Int32) → V_X12_opOf (g_23 0 14) g_23 k (fun r_28 g_26 k_27 => V_X12_begin n r_28 g_26 k_27 (fun g_29 k_30 => post g_29 k_30))))) ∧ (r_21 = (3 : Int32) → V_X12_place n (g_23 0 14) (g_23 0 15) g_23 k (fun r_34 g_32 k_33 => ((0 ≤ r_34 → V_X12_evaluate_89 post n r_21 r_34 g_32 k_33) ∧ (¬ 0 ≤ r_34 → V_X12_load (g_32 0 14) (fun r_36 => (vp_in r_36 40 ∧ ((¬ (g_32 2 r_36.toNatClampNeg) = 0 → V_X12_evaluate_89 post n r_21 r_34 g_32 k_33) ∧ ((g_32 2 r_36.toNatClampNeg) = 0 → ∀ g_38 : St, g_38 = us g_32 18 (3 : Int32) → V_X12_evaluate_89 post n r_21 r_34 g_38 k_33))))))))))) ∧ ((g 0 19) = (1000 : Int32) → ∀ g_39 : St, g_39 = us g 18 (2 : Int32) → post g_39 k))
abbrev RM_X12_evaluate : Room := { frames := 10, cells := 0, slots := 0, locals := 226 }
set_option maxHeartbeats 4000000 in
set_option maxRecDepth 100000 in
theorem m_X12_evaluate (l : Launch) (D : va_G) (cI cC cZ cJ : ClassId) (ad : Nat → Nat) (n : Nat) (g : St) (k : StL) {post : St → StL → Prop} (h : V_X12_evaluate n g k post) : MetV l yX12_evaluate cX12_evaluate 3 RM_X12_evaluate D (ty4 cI cC cZ cJ) (wM ad cI cC cZ cJ g k) [.ref (ad 0)] (fun u : St × StL => (wM ad cI cC cZ cJ u.1 u.2)) (fun u : St × StL => post u.1 u.2) := by
  refine mkV (by decide) (Nat.le_of_ble_eq_true rfl) ?_
  intro p e s m args below meth c A ls hC hr hlk hw hl
  have hx := hC.1
  have hb := hC.2.1
  have hl : lv_has ls 3 [(0, .ref (ad 0))] := hl
  have w_89 : ∀ (n : Nat) (x1 : Int32) (x2 : Int32) (g : St) (k : StL) (H : Heap) (locs : List Loc) (ls : Array Slot), V_X12_evaluate_89 post n x1 x2 g k → Wd D (ty4 cI cC cZ cJ) A s (wM ad cI cC cZ cJ g k) H locs → lv_has ls 3 [(0, .ref (ad 0)), (1, .int x1), (2, .int x2)] → W p l e RM_X12_evaluate s m args below meth c H locs 0 0 (QV below D (ty4 cI cC cZ cJ) A args s (fun u : St × StL => (wM ad cI cC cZ cJ u.1 u.2)) (fun u : St × StL => post u.1 u.2)) (F0 m 89 ls []) := by
    intro n x1 x2 g k H locs ls h hw hl
    unfold V_X12_evaluate_89 at h
    refine lv_aload_n hx hb dX12_evaluate_89 rfl (lv_at hl 0 rfl) ?_
    refine lv_iload_n hx hb dX12_evaluate_90 rfl (lv_at hl 2 rfl) ?_
    refine lv_if_ge (tgt := 109) hx hb dX12_evaluate_91 (by decide) (fun c_1 => ?_) (fun c_1 => ?_)
    · have h := h.1 c_1
      refine lv_aload_n hx hb dX12_evaluate_109 rfl (lv_at hl 0 rfl) ?_
      refine gt (v := .ref (ad 12)) kfX12_107 0 hC hw rfl rfl dX12_evaluate_110 ?_
      refine lv_iload_n hx hb dX12_evaluate_113 rfl (lv_at hl 2 rfl) ?_
      refine ldI 12 0 hC hw rfl rfl h.1 dX12_evaluate_114 ?_
      have h := h.2
      refine pwM_40 kpX12_311 hC hw dX12_evaluate_115 (fun H locs g_2 eg_2 hw => ?_)
      have h := h g_2 eg_2
      refine lv_iload_n hx hb dX12_evaluate_118 rfl (lv_at hl 1 rfl) ?_
      refine lv_iconst (v := (4 : Int32)) hx hb dX12_evaluate_119 (by decide) ?_
      refine lv_icmp_ne (tgt := 135) hx hb dX12_evaluate_120 (by decide) (fun c_3 => ?_) (fun c_3 => ?_)
      · have h := h.1 c_3
        exact rtV (wf := (fun u : St × StL => (wM ad cI cC cZ cJ u.1 u.2))) (g_2, k) hC hr hlk hw h dX12_evaluate_135
      · have h := h.2 c_3
        refine lv_aload_n hx hb dX12_evaluate_123 rfl (lv_at hl 0 rfl) ?_
        refine lv_aload_n hx hb dX12_evaluate_124 rfl (lv_at hl 0 rfl) ?_
        refine lv_aload_n hx hb dX12_evaluate_125 rfl (lv_at hl 0 rfl) ?_
        refine gt (v := .int (g_2 0 14)) kfX12_302 0 hC hw rfl rfl dX12_evaluate_126 ?_
        refine cVIw (q0 := 0) kmX12_263 hC hw (m_X12_opOf l D cI cC cZ cJ ad (g_2 0 14) g_2 k h) rfl rfl ⟨by decide, by decide⟩ rfl rfl rfl hl.1 (Nat.le_of_ble_eq_true rfl) dX12_evaluate_129 ⟨Nat.zero_le _, Nat.zero_le _⟩ rfl ?_
        intro r_6 u H locs h hw
        obtain ⟨g_4, k_5⟩ := u
        dsimp only at h hw
        refine cVVw (q0 := 0) kmX12_326 hC hw (m_X12_begin l D cI cC cZ cJ ad n r_6 g_4 k_5 h) rfl rfl ⟨by decide, by decide⟩ rfl rfl rfl hl.1 (Nat.le_of_ble_eq_true rfl) dX12_evaluate_132 ⟨Nat.zero_le _, Nat.zero_le _⟩ rfl ?_
        intro u H locs h hw
        obtain ⟨g_7, k_8⟩ := u
        dsimp only at h hw
        exact rtV (wf := (fun u : St × StL => (wM ad cI cC cZ cJ u.1 u.2))) (g_7, k_8) hC hr hlk hw h dX12_evaluate_135
    · have h := h.2 c_1
      refine lv_aload_n hx hb dX12_evaluate_94 rfl (lv_at hl 0 rfl) ?_
      refine gt (v := .ref (ad 4)) kfX12_21 0 hC hw rfl rfl dX12_evaluate_95 ?_
      refine lv_aload_n hx hb dX12_evaluate_98 rfl (lv_at hl 0 rfl) ?_
      refine gt (v := .int (g 0 14)) kfX12_302 0 hC hw rfl rfl dX12_evaluate_99 ?_
      refine cSI ksX12_180 hC (m_X12_load l (g 0 14) h) rfl rfl ⟨by decide, by decide⟩ rfl hl.1 (Nat.le_of_ble_eq_true rfl) dX12_evaluate_102 ⟨Nat.zero_le _, Nat.zero_le _⟩ rfl ?_
      intro r_10 h
      refine ldI 4 0 hC hw rfl rfl h.1 dX12_evaluate_105 ?_
      have h := h.2
      refine lv_goto (tgt := 115) hx hb dX12_evaluate_106 (by decide) ?_
      refine pwM_40 kpX12_311 hC hw dX12_evaluate_115 (fun H locs g_11 eg_11 hw => ?_)
      have h := h g_11 eg_11
      refine lv_iload_n hx hb dX12_evaluate_118 rfl (lv_at hl 1 rfl) ?_
      refine lv_iconst (v := (4 : Int32)) hx hb dX12_evaluate_119 (by decide) ?_
      refine lv_icmp_ne (tgt := 135) hx hb dX12_evaluate_120 (by decide) (fun c_12 => ?_) (fun c_12 => ?_)
      · have h := h.1 c_12
        exact rtV (wf := (fun u : St × StL => (wM ad cI cC cZ cJ u.1 u.2))) (g_11, k) hC hr hlk hw h dX12_evaluate_135
      · have h := h.2 c_12
        refine lv_aload_n hx hb dX12_evaluate_123 rfl (lv_at hl 0 rfl) ?_
        refine lv_aload_n hx hb dX12_evaluate_124 rfl (lv_at hl 0 rfl) ?_
        refine lv_aload_n hx hb dX12_evaluate_125 rfl (lv_at hl 0 rfl) ?_
        refine gt (v := .int (g_11 0 14)) kfX12_302 0 hC hw rfl rfl dX12_evaluate_126 ?_
        refine cVIw (q0 := 0) kmX12_263 hC hw (m_X12_opOf l D cI cC cZ cJ ad (g_11 0 14) g_11 k h) rfl rfl ⟨by decide, by decide⟩ rfl rfl rfl hl.1 (Nat.le_of_ble_eq_true rfl) dX12_evaluate_129 ⟨Nat.zero_le _, Nat.zero_le _⟩ rfl ?_
        intro r_15 u H locs h hw
        obtain ⟨g_13, k_14⟩ := u
        dsimp only at h hw
        refine cVVw (q0 := 0) kmX12_326 hC hw (m_X12_begin l D cI cC cZ cJ ad n r_15 g_13 k_14 h) rfl rfl ⟨by decide, by decide⟩ rfl rfl rfl hl.1 (Nat.le_of_ble_eq_true rfl) dX12_evaluate_132 ⟨Nat.zero_le _, Nat.zero_le _⟩ rfl ?_
        intro u H locs h hw
        obtain ⟨g_16, k_17⟩ := u
        dsimp only at h hw
        exact rtV (wf := (fun u : St × StL => (wM ad cI cC cZ cJ u.1 u.2))) (g_16, k_17) hC hr hlk hw h dX12_evaluate_135
  unfold V_X12_evaluate at h
  refine lv_aload_n hx hb dX12_evaluate_0 rfl (lv_at hl 0 rfl) ?_
  refine gt (v := .int (g 0 19)) kfX12_320 0 hC hw rfl rfl dX12_evaluate_1 ?_
  refine lv_sipush (v := (1000 : Int32)) hx hb dX12_evaluate_4 (by decide) ?_
  refine lv_icmp_ne (tgt := 16) hx hb dX12_evaluate_7 (by decide) (fun c_19 => ?_) (fun c_19 => ?_)
  · have h := h.1 c_19
    refine lv_aload_n hx hb dX12_evaluate_16 rfl (lv_at hl 0 rfl) ?_
    refine lv_dup hx hb dX12_evaluate_17 rfl ?_
    refine gt (v := .int (g 0 19)) kfX12_320 0 hC hw rfl rfl dX12_evaluate_18 ?_
    refine lv_iconst (v := (1 : Int32)) hx hb dX12_evaluate_21 (by decide) ?_
    refine lv_iadd hx hb dX12_evaluate_22 ?_
    refine pwM_43 kpX12_320 hC hw dX12_evaluate_23 (fun H locs g_20 eg_20 hw => ?_)
    have h := h g_20 eg_20
    refine lv_aload_n hx hb dX12_evaluate_26 rfl (lv_at hl 0 rfl) ?_
    refine gt (v := .int (g_20 0 14)) kfX12_302 0 hC hw rfl rfl dX12_evaluate_27 ?_
    refine cSI ksX12_254 hC (m_X12_sortOf l (g_20 0 14) h) rfl rfl ⟨by decide, by decide⟩ rfl hl.1 (Nat.le_of_ble_eq_true rfl) dX12_evaluate_30 ⟨Nat.zero_le _, Nat.zero_le _⟩ rfl ?_
    intro r_21 h
    refine lv_istore_n (lv' := [(1, .int r_21), (0, .ref (ad 0))]) hx hb dX12_evaluate_33 rfl hl (by decide) rfl (fun ls hl => ?_)
    refine lv_aload_n hx hb dX12_evaluate_34 rfl (lv_at hl 1 rfl) ?_
    refine lv_iconst (v := (1 : Int32)) hx hb dX12_evaluate_35 (by decide) ?_
    refine pwM_41 kpX12_314 (by decide) hC hw dX12_evaluate_36 (fun H locs g_22 eg_22 hw => ?_)
    have h := h g_22 eg_22
    refine lv_aload_n hx hb dX12_evaluate_39 rfl (lv_at hl 1 rfl) ?_
    refine lv_aload_n hx hb dX12_evaluate_40 rfl (lv_at hl 1 rfl) ?_
    refine gt (v := .int (g_22 0 14)) kfX12_302 0 hC hw rfl rfl dX12_evaluate_41 ?_
    refine pwM_40 kpX12_311 hC hw dX12_evaluate_44 (fun H locs g_23 eg_23 hw => ?_)
    have h := h g_23 eg_23
    refine lv_iload_n hx hb dX12_evaluate_47 rfl (lv_at hl 0 rfl) ?_
    refine lv_iconst (v := (3 : Int32)) hx hb dX12_evaluate_48 (by decide) ?_
    refine lv_icmp_ne (tgt := 118) hx hb dX12_evaluate_49 (by decide) (fun c_24 => ?_) (fun c_24 => ?_)
    · have h := h.1 c_24
      refine lv_iload_n hx hb dX12_evaluate_118 rfl (lv_at hl 0 rfl) ?_
      refine lv_iconst (v := (4 : Int32)) hx hb dX12_evaluate_119 (by decide) ?_
      refine lv_icmp_ne (tgt := 135) hx hb dX12_evaluate_120 (by decide) (fun c_25 => ?_) (fun c_25 => ?_)
      · have h := h.1 c_25
        exact rtV (wf := (fun u : St × StL => (wM ad cI cC cZ cJ u.1 u.2))) (g_23, k) hC hr hlk hw h dX12_evaluate_135
      · have h := h.2 c_25
        refine lv_aload_n hx hb dX12_evaluate_123 rfl (lv_at hl 1 rfl) ?_
        refine lv_aload_n hx hb dX12_evaluate_124 rfl (lv_at hl 1 rfl) ?_
        refine lv_aload_n hx hb dX12_evaluate_125 rfl (lv_at hl 1 rfl) ?_
        refine gt (v := .int (g_23 0 14)) kfX12_302 0 hC hw rfl rfl dX12_evaluate_126 ?_
        refine cVIw (q0 := 0) kmX12_263 hC hw (m_X12_opOf l D cI cC cZ cJ ad (g_23 0 14) g_23 k h) rfl rfl ⟨by decide, by decide⟩ rfl rfl rfl hl.1 (Nat.le_of_ble_eq_true rfl) dX12_evaluate_129 ⟨Nat.zero_le _, Nat.zero_le _⟩ rfl ?_
        intro r_28 u H locs h hw
        obtain ⟨g_26, k_27⟩ := u
        dsimp only at h hw
        refine cVVw (q0 := 0) kmX12_326 hC hw (m_X12_begin l D cI cC cZ cJ ad n r_28 g_26 k_27 h) rfl rfl ⟨by decide, by decide⟩ rfl rfl rfl hl.1 (Nat.le_of_ble_eq_true rfl) dX12_evaluate_132 ⟨Nat.zero_le _, Nat.zero_le _⟩ rfl ?_
        intro u H locs h hw
        obtain ⟨g_29, k_30⟩ := u
        dsimp only at h hw
        exact rtV (wf := (fun u : St × StL => (wM ad cI cC cZ cJ u.1 u.2))) (g_29, k_30) hC hr hlk hw h dX12_evaluate_135
    · have h := h.2 c_24
      refine lv_aload_n hx hb dX12_evaluate_52 rfl (lv_at hl 1 rfl) ?_
      refine lv_aload_n hx hb dX12_evaluate_53 rfl (lv_at hl 1 rfl) ?_
      refine gt (v := .int (g_23 0 14)) kfX12_302 0 hC hw rfl rfl dX12_evaluate_54 ?_
      refine lv_aload_n hx hb dX12_evaluate_57 rfl (lv_at hl 1 rfl) ?_
      refine gt (v := .int (g_23 0 15)) kfX12_305 0 hC hw rfl rfl dX12_evaluate_58 ?_
      refine cVIw (q0 := 0) kmX12_323 hC hw (m_X12_place l D cI cC cZ cJ ad n (g_23 0 14) (g_23 0 15) g_23 k h) rfl rfl ⟨by decide, by decide⟩ rfl rfl rfl hl.1 (Nat.le_of_ble_eq_true rfl) dX12_evaluate_61 ⟨Nat.zero_le _, Nat.zero_le _⟩ rfl ?_
      intro r_34 u H locs h hw
      obtain ⟨g_32, k_33⟩ := u
      dsimp only at h hw
      refine lv_istore_n (lv' := [(2, .int r_34), (1, .int r_21), (0, .ref (ad 0))]) hx hb dX12_evaluate_64 rfl hl (by decide) rfl (fun ls hl => ?_)
      refine lv_iload_n hx hb dX12_evaluate_65 rfl (lv_at hl 0 rfl) ?_
      refine lv_if_ge (tgt := 89) hx hb dX12_evaluate_66 (by decide) (fun c_35 => ?_) (fun c_35 => ?_)
      · have h := h.1 c_35
        exact w_89 n r_21 r_34 g_32 k_33 _ _ _ h hw (lv_sub hl [2, 1, 0] rfl)
      · have h := h.2 c_35
        refine lv_aload_n hx hb dX12_evaluate_69 rfl (lv_at hl 2 rfl) ?_
        refine gt (v := .ref (ad 3)) kfX12_17 0 hC hw rfl rfl dX12_evaluate_70 ?_
        refine lv_aload_n hx hb dX12_evaluate_73 rfl (lv_at hl 2 rfl) ?_
        refine gt (v := .int (g_32 0 14)) kfX12_302 0 hC hw rfl rfl dX12_evaluate_74 ?_
        refine cSI ksX12_180 hC (m_X12_load l (g_32 0 14) h) rfl rfl ⟨by decide, by decide⟩ rfl hl.1 (Nat.le_of_ble_eq_true rfl) dX12_evaluate_77 ⟨Nat.zero_le _, Nat.zero_le _⟩ rfl ?_
        intro r_36 h
        refine ldZ 3 2 hC hw rfl rfl h.1 dX12_evaluate_80 ?_
        have h := h.2
        refine lv_if_ne (tgt := 89) hx hb dX12_evaluate_81 (by decide) (fun c_37 => ?_) (fun c_37 => ?_)
        · have h := h.1 c_37
          exact w_89 n r_21 r_34 g_32 k_33 _ _ _ h hw (lv_sub hl [2, 1, 0] rfl)
        · have h := h.2 c_37
          refine lv_aload_n hx hb dX12_evaluate_84 rfl (lv_at hl 2 rfl) ?_
          refine lv_iconst (v := (3 : Int32)) hx hb dX12_evaluate_85 (by decide) ?_
          refine pwM_42 kpX12_299 hC hw dX12_evaluate_86 (fun H locs g_38 eg_38 hw => ?_)
          have h := h g_38 eg_38
          exact w_89 n r_21 r_34 g_38 k_33 _ _ _ h hw (lv_sub hl [2, 1, 0] rfl)
  · have h := h.2 c_19
    refine lv_aload_n hx hb dX12_evaluate_10 rfl (lv_at hl 0 rfl) ?_
    refine lv_iconst (v := (2 : Int32)) hx hb dX12_evaluate_11 (by decide) ?_
    refine pwM_42 kpX12_299 hC hw dX12_evaluate_12 (fun H locs g_39 eg_39 hw => ?_)
    have h := h g_39 eg_39
    exact rtV (wf := (fun u : St × StL => (wM ad cI cC cZ cJ u.1 u.2))) (g_39, k) hC hr hlk hw h dX12_evaluate_15
def V_X12_run_111 (post : Int32 → St → StL → Prop) (n : Nat) (g : St) (k : StL) : Prop := ∀ g_1 : St, g_1 = us g 12 (0 : Int32) → ∀ g_2 : St, g_2 = us g_1 13 (0 : Int32) → (((g_2 0 18) = 0 → ∀ g_4 : St, g_4 = us g_2 22 ((g_2 0 22) + (1 : Int32)) → (vp_in (1 : Int32) 40 ∧ ∀ g_5 : St, g_5 = up g_4 3 (1 : Int32).toNatClampNeg (g_4 0 16) → (vp_in (1 : Int32) 40 ∧ ∀ g_6 : St, g_6 = up g_5 2 (1 : Int32).toNatClampNeg (vp_nar .boolean (1 : Int32)) → V_X12_sortOf (g_6 0 16) (fun r_7 => post r_7 g_6 k)))) ∧ (¬ (g_2 0 18) = 0 → ∀ g_8 : St, g_8 = us g_2 23 ((g_2 0 23) + (1 : Int32)) → V_X12_raise (g_8 0 18) g_8 k (fun r_11 g_9 k_10 => post r_11 g_9 k_10)))
def V_X12_run_69 (post : Int32 → St → StL → Prop) : Nat → St → StL → Prop
  | 0, _, _ => False
  | n + 1, g, k => ((¬ (g 0 18) = 0 → V_X12_run_111 post n g k) ∧ ((g 0 18) = 0 → (((g 0 17) = 0 → (((g 0 17) = 0 → V_X12_evaluate n  g k (fun g_15 k_16 => V_X12_run_69 post n g_15 k_16)) ∧ (¬ (g 0 17) = 0 → V_X12_resume n  g k (fun g_18 k_19 => V_X12_run_69 post n g_18 k_19)))) ∧ (¬ (g 0 17) = 0 → (((g 0 12) ≤ 0 → V_X12_run_111 post n g k) ∧ (¬ (g 0 12) ≤ 0 → (((g 0 17) = 0 → V_X12_evaluate n  g k (fun g_23 k_24 => V_X12_run_69 post n g_23 k_24)) ∧ (¬ (g 0 17) = 0 → V_X12_resume n  g k (fun g_26 k_27 => V_X12_run_69 post n g_26 k_27)))))))))
def V_X12_run (n : Nat) (x1 : Int32) (g : St) (k : StL) (post : Int32 → St → StL → Prop) : Prop := V_X12_wellFormed n x1 g k (fun r_31 g_29 k_30 => ((¬ r_31 = 0 → ∀ g_33 : St, g_33 = us g_29 19 (0 : Int32) → ∀ g_34 : St, g_34 = us g_33 20 (0 : Int32) → ∀ g_35 : St, g_35 = us g_34 21 (0 : Int32) → ∀ g_36 : St, g_36 = us g_35 12 (0 : Int32) → ∀ g_37 : St, g_37 = us g_36 13 (0 : Int32) → ∀ g_38 : St, g_38 = us g_37 18 (0 : Int32) → ∀ g_39 : St, g_39 = us g_38 14 x1 → ∀ g_40 : St, g_40 = us g_39 15 (0 : Int32) → ∀ g_41 : St, g_41 = us g_40 17 (0 : Int32) → V_X12_run_69 post n g_41 k_30) ∧ (r_31 = 0 → ∀ g_42 : St, g_42 = us g_29 23 ((g_29 0 23) + (1 : Int32)) → V_X12_raise (1 : Int32) g_42 k_30 (fun r_45 g_43 k_44 => post r_45 g_43 k_44))))
abbrev RM_X12_run : Room := { frames := 11, cells := 0, slots := 0, locals := 248 }
set_option maxHeartbeats 4000000 in
set_option maxRecDepth 100000 in
theorem m_X12_run (l : Launch) (D : va_G) (cI cC cZ cJ : ClassId) (ad : Nat → Nat) (n : Nat) (x1 : Int32) (g : St) (k : StL) {post : Int32 → St → StL → Prop} (h : V_X12_run n x1 g k post) : MetI l yX12_run cX12_run 2 .int RM_X12_run D (ty4 cI cC cZ cJ) (wM ad cI cC cZ cJ g k) [.ref (ad 0), .int x1] (fun u : St × StL => (wM ad cI cC cZ cJ u.1 u.2)) (fun (r : Int32) (u : St × StL) => post r u.1 u.2) := by
  refine mkI (by decide) (Nat.le_of_ble_eq_true rfl) ?_
  intro p e s m args below meth c A ls hC hr hlk hw hl
  have hx := hC.1
  have hb := hC.2.1
  have hl : lv_has ls 2 [(0, .ref (ad 0)), (1, .int x1)] := hl
  have w_111 : ∀ (n : Nat) (g : St) (k : StL) (H : Heap) (locs : List Loc) (ls : Array Slot), V_X12_run_111 post n g k → Wd D (ty4 cI cC cZ cJ) A s (wM ad cI cC cZ cJ g k) H locs → lv_has ls 2 [(0, .ref (ad 0))] → W p l e RM_X12_run s m args below meth c H locs 0 0 (QI below D (ty4 cI cC cZ cJ) A args s (fun u : St × StL => (wM ad cI cC cZ cJ u.1 u.2)) (fun (r : Int32) (u : St × StL) => post r u.1 u.2)) (F0 m 111 ls []) := by
    intro n g k H locs ls h hw hl
    unfold V_X12_run_111 at h
    refine lv_aload_n hx hb dX12_run_111 rfl (lv_at hl 0 rfl) ?_
    refine lv_iconst (v := (0 : Int32)) hx hb dX12_run_112 (by decide) ?_
    refine pwM_36 kpX12_278 hC hw dX12_run_113 (fun H locs g_1 eg_1 hw => ?_)
    have h := h g_1 eg_1
    refine lv_aload_n hx hb dX12_run_116 rfl (lv_at hl 0 rfl) ?_
    refine lv_iconst (v := (0 : Int32)) hx hb dX12_run_117 (by decide) ?_
    refine pwM_37 kpX12_275 hC hw dX12_run_118 (fun H locs g_2 eg_2 hw => ?_)
    have h := h g_2 eg_2
    refine lv_aload_n hx hb dX12_run_121 rfl (lv_at hl 0 rfl) ?_
    refine gt (v := .int (g_2 0 18)) kfX12_299 0 hC hw rfl rfl dX12_run_122 ?_
    refine lv_if_eq (tgt := 147) hx hb dX12_run_125 (by decide) (fun c_3 => ?_) (fun c_3 => ?_)
    · have h := h.1 c_3
      refine lv_aload_n hx hb dX12_run_147 rfl (lv_at hl 0 rfl) ?_
      refine lv_dup hx hb dX12_run_148 rfl ?_
      refine gt (v := .int (g_2 0 22)) kfX12_418 0 hC hw rfl rfl dX12_run_149 ?_
      refine lv_iconst (v := (1 : Int32)) hx hb dX12_run_152 (by decide) ?_
      refine lv_iadd hx hb dX12_run_153 ?_
      refine pwM_46 kpX12_418 hC hw dX12_run_154 (fun H locs g_4 eg_4 hw => ?_)
      have h := h g_4 eg_4
      refine lv_aload_n hx hb dX12_run_157 rfl (lv_at hl 0 rfl) ?_
      refine gt (v := .ref (ad 4)) kfX12_21 0 hC hw rfl rfl dX12_run_158 ?_
      refine lv_iconst (v := (1 : Int32)) hx hb dX12_run_161 (by decide) ?_
      refine lv_aload_n hx hb dX12_run_162 rfl (lv_at hl 0 rfl) ?_
      refine gt (v := .int (g_4 0 16)) kfX12_311 0 hC hw rfl rfl dX12_run_163 ?_
      refine swM_4 h.1 hC hw dX12_run_166 (fun H locs g_5 eg_5 hw => ?_)
      have h := h.2 g_5 eg_5
      refine lv_aload_n hx hb dX12_run_167 rfl (lv_at hl 0 rfl) ?_
      refine gt (v := .ref (ad 3)) kfX12_17 0 hC hw rfl rfl dX12_run_168 ?_
      refine lv_iconst (v := (1 : Int32)) hx hb dX12_run_171 (by decide) ?_
      refine lv_iconst (v := (1 : Int32)) hx hb dX12_run_172 (by decide) ?_
      refine swM_3 h.1 hC hw dX12_run_173 (fun H locs g_6 eg_6 hw => ?_)
      have h := h.2 g_6 eg_6
      refine lv_aload_n hx hb dX12_run_174 rfl (lv_at hl 0 rfl) ?_
      refine gt (v := .int (g_6 0 16)) kfX12_311 0 hC hw rfl rfl dX12_run_175 ?_
      refine cSI ksX12_254 hC (m_X12_sortOf l (g_6 0 16) h) rfl rfl ⟨by decide, by decide⟩ rfl hl.1 (Nat.le_of_ble_eq_true rfl) dX12_run_178 ⟨Nat.zero_le _, Nat.zero_le _⟩ rfl ?_
      intro r_7 h
      exact rtI (wf := (fun u : St × StL => (wM ad cI cC cZ cJ u.1 u.2))) (g_6, k) hC hr hlk hw rfl h dX12_run_181
    · have h := h.2 c_3
      refine lv_aload_n hx hb dX12_run_128 rfl (lv_at hl 0 rfl) ?_
      refine lv_dup hx hb dX12_run_129 rfl ?_
      refine gt (v := .int (g_2 0 23)) kfX12_409 0 hC hw rfl rfl dX12_run_130 ?_
      refine lv_iconst (v := (1 : Int32)) hx hb dX12_run_133 (by decide) ?_
      refine lv_iadd hx hb dX12_run_134 ?_
      refine pwM_47 kpX12_409 hC hw dX12_run_135 (fun H locs g_8 eg_8 hw => ?_)
      have h := h g_8 eg_8
      refine lv_aload_n hx hb dX12_run_138 rfl (lv_at hl 0 rfl) ?_
      refine lv_aload_n hx hb dX12_run_139 rfl (lv_at hl 0 rfl) ?_
      refine gt (v := .int (g_8 0 18)) kfX12_299 0 hC hw rfl rfl dX12_run_140 ?_
      refine cVIw (q0 := 0) kmX12_230 hC hw (m_X12_raise l D cI cC cZ cJ ad (g_8 0 18) g_8 k h) rfl rfl ⟨by decide, by decide⟩ rfl rfl rfl hl.1 (Nat.le_of_ble_eq_true rfl) dX12_run_143 ⟨Nat.zero_le _, Nat.zero_le _⟩ rfl ?_
      intro r_11 u H locs h hw
      obtain ⟨g_9, k_10⟩ := u
      dsimp only at h hw
      exact rtI (wf := (fun u : St × StL => (wM ad cI cC cZ cJ u.1 u.2))) (g_9, k_10) hC hr hlk hw rfl h dX12_run_146
  have w_69 : ∀ (n : Nat) (g : St) (k : StL) (H : Heap) (locs : List Loc) (ls : Array Slot), V_X12_run_69 post n g k → Wd D (ty4 cI cC cZ cJ) A s (wM ad cI cC cZ cJ g k) H locs → lv_has ls 2 [(0, .ref (ad 0))] → W p l e RM_X12_run s m args below meth c H locs 0 0 (QI below D (ty4 cI cC cZ cJ) A args s (fun u : St × StL => (wM ad cI cC cZ cJ u.1 u.2)) (fun (r : Int32) (u : St × StL) => post r u.1 u.2)) (F0 m 69 ls []) := by
    intro n
    induction n with
    | zero =>
      intro g k H locs ls h
      exact False.elim h
    | succ n ih =>
      intro g k H locs ls h hw hl
      rw [V_X12_run_69] at h
      refine lv_aload_n hx hb dX12_run_69 rfl (lv_at hl 0 rfl) ?_
      refine gt (v := .int (g 0 18)) kfX12_299 0 hC hw rfl rfl dX12_run_70 ?_
      refine lv_if_ne (tgt := 111) hx hb dX12_run_73 (by decide) (fun c_12 => ?_) (fun c_12 => ?_)
      · have h := h.1 c_12
        exact w_111 n g k _ _ _ h hw (lv_sub hl [0] rfl)
      · have h := h.2 c_12
        refine lv_aload_n hx hb dX12_run_76 rfl (lv_at hl 0 rfl) ?_
        refine gt (v := .int (g 0 17)) kfX12_314 0 hC hw rfl rfl dX12_run_77 ?_
        refine lv_if_eq (tgt := 90) hx hb dX12_run_80 (by decide) (fun c_13 => ?_) (fun c_13 => ?_)
        · have h := h.1 c_13
          refine lv_aload_n hx hb dX12_run_90 rfl (lv_at hl 0 rfl) ?_
          refine gt (v := .int (g 0 17)) kfX12_314 0 hC hw rfl rfl dX12_run_91 ?_
          refine lv_if_eq (tgt := 104) hx hb dX12_run_94 (by decide) (fun c_14 => ?_) (fun c_14 => ?_)
          · have h := h.1 c_14
            refine lv_aload_n hx hb dX12_run_104 rfl (lv_at hl 0 rfl) ?_
            refine cVVw (q0 := 0) kmX12_415 hC hw (m_X12_evaluate l D cI cC cZ cJ ad n  g k h) rfl rfl ⟨by decide, by decide⟩ rfl rfl rfl hl.1 (Nat.le_of_ble_eq_true rfl) dX12_run_105 ⟨Nat.zero_le _, Nat.zero_le _⟩ rfl ?_
            intro u H locs h hw
            obtain ⟨g_15, k_16⟩ := u
            dsimp only at h hw
            refine lv_goto (tgt := 69) hx hb dX12_run_108 (by decide) ?_
            exact ih g_15 k_16 _ _ _ h hw (lv_sub hl [0] rfl)
          · have h := h.2 c_14
            refine lv_aload_n hx hb dX12_run_97 rfl (lv_at hl 0 rfl) ?_
            refine cVVw (q0 := 0) kmX12_412 hC hw (m_X12_resume l D cI cC cZ cJ ad n  g k h) rfl rfl ⟨by decide, by decide⟩ rfl rfl rfl hl.1 (Nat.le_of_ble_eq_true rfl) dX12_run_98 ⟨Nat.zero_le _, Nat.zero_le _⟩ rfl ?_
            intro u H locs h hw
            obtain ⟨g_18, k_19⟩ := u
            dsimp only at h hw
            refine lv_goto (tgt := 69) hx hb dX12_run_101 (by decide) ?_
            exact ih g_18 k_19 _ _ _ h hw (lv_sub hl [0] rfl)
        · have h := h.2 c_13
          refine lv_aload_n hx hb dX12_run_83 rfl (lv_at hl 0 rfl) ?_
          refine gt (v := .int (g 0 12)) kfX12_278 0 hC hw rfl rfl dX12_run_84 ?_
          refine lv_if_le (tgt := 111) hx hb dX12_run_87 (by decide) (fun c_21 => ?_) (fun c_21 => ?_)
          · have h := h.1 c_21
            exact w_111 n g k _ _ _ h hw (lv_sub hl [0] rfl)
          · have h := h.2 c_21
            refine lv_aload_n hx hb dX12_run_90 rfl (lv_at hl 0 rfl) ?_
            refine gt (v := .int (g 0 17)) kfX12_314 0 hC hw rfl rfl dX12_run_91 ?_
            refine lv_if_eq (tgt := 104) hx hb dX12_run_94 (by decide) (fun c_22 => ?_) (fun c_22 => ?_)
            · have h := h.1 c_22
              refine lv_aload_n hx hb dX12_run_104 rfl (lv_at hl 0 rfl) ?_
              refine cVVw (q0 := 0) kmX12_415 hC hw (m_X12_evaluate l D cI cC cZ cJ ad n  g k h) rfl rfl ⟨by decide, by decide⟩ rfl rfl rfl hl.1 (Nat.le_of_ble_eq_true rfl) dX12_run_105 ⟨Nat.zero_le _, Nat.zero_le _⟩ rfl ?_
              intro u H locs h hw
              obtain ⟨g_23, k_24⟩ := u
              dsimp only at h hw
              refine lv_goto (tgt := 69) hx hb dX12_run_108 (by decide) ?_
              exact ih g_23 k_24 _ _ _ h hw (lv_sub hl [0] rfl)
            · have h := h.2 c_22
              refine lv_aload_n hx hb dX12_run_97 rfl (lv_at hl 0 rfl) ?_
              refine cVVw (q0 := 0) kmX12_412 hC hw (m_X12_resume l D cI cC cZ cJ ad n  g k h) rfl rfl ⟨by decide, by decide⟩ rfl rfl rfl hl.1 (Nat.le_of_ble_eq_true rfl) dX12_run_98 ⟨Nat.zero_le _, Nat.zero_le _⟩ rfl ?_
              intro u H locs h hw
              obtain ⟨g_26, k_27⟩ := u
              dsimp only at h hw
              refine lv_goto (tgt := 69) hx hb dX12_run_101 (by decide) ?_
              exact ih g_26 k_27 _ _ _ h hw (lv_sub hl [0] rfl)
  unfold V_X12_run at h
  refine lv_aload_n hx hb dX12_run_0 rfl (lv_at hl 0 rfl) ?_
  refine lv_iload_n hx hb dX12_run_1 rfl (lv_at hl 1 rfl) ?_
  refine cVIw (q0 := 0) kmX12_406 hC hw (m_X12_wellFormed l D cI cC cZ cJ ad n x1 g k h) rfl rfl ⟨by decide, by decide⟩ rfl rfl rfl hl.1 (Nat.le_of_ble_eq_true rfl) dX12_run_2 ⟨Nat.zero_le _, Nat.zero_le _⟩ rfl ?_
  intro r_31 u H locs h hw
  obtain ⟨g_29, k_30⟩ := u
  dsimp only at h hw
  refine lv_if_ne (tgt := 24) hx hb dX12_run_5 (by decide) (fun c_32 => ?_) (fun c_32 => ?_)
  · have h := h.1 c_32
    refine lv_aload_n hx hb dX12_run_24 rfl (lv_at hl 0 rfl) ?_
    refine lv_iconst (v := (0 : Int32)) hx hb dX12_run_25 (by decide) ?_
    refine pwM_43 kpX12_320 hC hw dX12_run_26 (fun H locs g_33 eg_33 hw => ?_)
    have h := h g_33 eg_33
    refine lv_aload_n hx hb dX12_run_29 rfl (lv_at hl 0 rfl) ?_
    refine lv_iconst (v := (0 : Int32)) hx hb dX12_run_30 (by decide) ?_
    refine pwM_44 kpX12_308 hC hw dX12_run_31 (fun H locs g_34 eg_34 hw => ?_)
    have h := h g_34 eg_34
    refine lv_aload_n hx hb dX12_run_34 rfl (lv_at hl 0 rfl) ?_
    refine lv_iconst (v := (0 : Int32)) hx hb dX12_run_35 (by decide) ?_
    refine pwM_45 kpX12_403 hC hw dX12_run_36 (fun H locs g_35 eg_35 hw => ?_)
    have h := h g_35 eg_35
    refine lv_aload_n hx hb dX12_run_39 rfl (lv_at hl 0 rfl) ?_
    refine lv_iconst (v := (0 : Int32)) hx hb dX12_run_40 (by decide) ?_
    refine pwM_36 kpX12_278 hC hw dX12_run_41 (fun H locs g_36 eg_36 hw => ?_)
    have h := h g_36 eg_36
    refine lv_aload_n hx hb dX12_run_44 rfl (lv_at hl 0 rfl) ?_
    refine lv_iconst (v := (0 : Int32)) hx hb dX12_run_45 (by decide) ?_
    refine pwM_37 kpX12_275 hC hw dX12_run_46 (fun H locs g_37 eg_37 hw => ?_)
    have h := h g_37 eg_37
    refine lv_aload_n hx hb dX12_run_49 rfl (lv_at hl 0 rfl) ?_
    refine lv_iconst (v := (0 : Int32)) hx hb dX12_run_50 (by decide) ?_
    refine pwM_42 kpX12_299 hC hw dX12_run_51 (fun H locs g_38 eg_38 hw => ?_)
    have h := h g_38 eg_38
    refine lv_aload_n hx hb dX12_run_54 rfl (lv_at hl 0 rfl) ?_
    refine lv_iload_n hx hb dX12_run_55 rfl (lv_at hl 1 rfl) ?_
    refine pwM_38 kpX12_302 hC hw dX12_run_56 (fun H locs g_39 eg_39 hw => ?_)
    have h := h g_39 eg_39
    refine lv_aload_n hx hb dX12_run_59 rfl (lv_at hl 0 rfl) ?_
    refine lv_iconst (v := (0 : Int32)) hx hb dX12_run_60 (by decide) ?_
    refine pwM_39 kpX12_305 hC hw dX12_run_61 (fun H locs g_40 eg_40 hw => ?_)
    have h := h g_40 eg_40
    refine lv_aload_n hx hb dX12_run_64 rfl (lv_at hl 0 rfl) ?_
    refine lv_iconst (v := (0 : Int32)) hx hb dX12_run_65 (by decide) ?_
    refine pwM_41 kpX12_314 (by decide) hC hw dX12_run_66 (fun H locs g_41 eg_41 hw => ?_)
    have h := h g_41 eg_41
    exact w_69 n g_41 k_30 _ _ _ h hw (lv_sub hl [0] rfl)
  · have h := h.2 c_32
    refine lv_aload_n hx hb dX12_run_8 rfl (lv_at hl 0 rfl) ?_
    refine lv_dup hx hb dX12_run_9 rfl ?_
    refine gt (v := .int (g_29 0 23)) kfX12_409 0 hC hw rfl rfl dX12_run_10 ?_
    refine lv_iconst (v := (1 : Int32)) hx hb dX12_run_13 (by decide) ?_
    refine lv_iadd hx hb dX12_run_14 ?_
    refine pwM_47 kpX12_409 hC hw dX12_run_15 (fun H locs g_42 eg_42 hw => ?_)
    have h := h g_42 eg_42
    refine lv_aload_n hx hb dX12_run_18 rfl (lv_at hl 0 rfl) ?_
    refine lv_iconst (v := (1 : Int32)) hx hb dX12_run_19 (by decide) ?_
    refine cVIw (q0 := 0) kmX12_230 hC hw (m_X12_raise l D cI cC cZ cJ ad (1 : Int32) g_42 k_30 h) rfl rfl ⟨by decide, by decide⟩ rfl rfl rfl hl.1 (Nat.le_of_ble_eq_true rfl) dX12_run_20 ⟨Nat.zero_le _, Nat.zero_le _⟩ rfl ?_
    intro r_45 u H locs h hw
    obtain ⟨g_43, k_44⟩ := u
    dsimp only at h hw
    exact rtI (wf := (fun u : St × StL => (wM ad cI cC cZ cJ u.1 u.2))) (g_43, k_44) hC hr hlk hw rfl h dX12_run_23
def V_X12_type_148 (post : Int32 → St → StL → Prop) (n : Nat) (x1 : Int32) (g : St) (k : StL) : Prop := ((x1 = (41 : Int32) → (((g 0 7) = 0 → V_X12_drop  g k (fun r_5 g_3 k_4 => post r_5 g_3 k_4)) ∧ (¬ (g 0 7) = 0 → (vp_in ((g 0 7) - (1 : Int32)) 13 ∧ (((g 12 ((g 0 7) - (1 : Int32)).toNatClampNeg) = 0 → ∀ g_7 : St, g_7 = us g 7 ((g 0 7) - (1 : Int32)) → ((¬ (g_7 0 7) = 0 → (vp_in (g_7 0 7) 13 ∧ V_X12_add n (g_7 13 (g_7 0 7).toNatClampNeg) g_7 k (fun g_9 k_10 => post (0 : Int32) g_9 k_10))) ∧ ((g_7 0 7) = 0 → (vp_in (0 : Int32) 13 ∧ V_X12_run n (g_7 13 (0 : Int32).toNatClampNeg) g_7 k (fun r_14 g_12 k_13 => post r_14 g_12 k_13))))) ∧ (¬ (g 12 ((g 0 7) - (1 : Int32)).toNatClampNeg) = 0 → V_X12_drop  g k (fun r_17 g_15 k_16 => post r_17 g_15 k_16))))))) ∧ (¬ x1 = (41 : Int32) → post (0 : Int32) g k))
def V_X12_type_93 (post : Int32 → St → StL → Prop) (n : Nat) (x1 : Int32) (g : St) (k : StL) : Prop := ((¬ (g 0 7) = (12 : Int32) → ((¬ x1 = (39 : Int32) → (vp_in (g 0 7) 13 ∧ ∀ g_20 : St, g_20 = up g 12 (g 0 7).toNatClampNeg (vp_nar .boolean (0 : Int32)) → (vp_in (g_20 0 7) 13 ∧ ∀ g_21 : St, g_21 = up g_20 13 (g_20 0 7).toNatClampNeg (1048576 : Int32) → ∀ g_22 : St, g_22 = us g_21 7 ((g_21 0 7) + (1 : Int32)) → V_X12_type_148 post n x1 g_22 k))) ∧ (x1 = (39 : Int32) → (vp_in (g 0 7) 13 ∧ ∀ g_23 : St, g_23 = up g 12 (g 0 7).toNatClampNeg (vp_nar .boolean (1 : Int32)) → (vp_in (g_23 0 7) 13 ∧ ∀ g_24 : St, g_24 = up g_23 13 (g_23 0 7).toNatClampNeg (1048576 : Int32) → ∀ g_25 : St, g_25 = us g_24 7 ((g_24 0 7) + (1 : Int32)) → V_X12_type_148 post n x1 g_25 k))))) ∧ ((g 0 7) = (12 : Int32) → V_X12_drop  g k (fun r_28 g_26 k_27 => post r_28 g_26 k_27)))
def V_X12_type_62 (post : Int32 → St → StL → Prop) (n : Nat) (x1 : Int32) (g : St) (k : StL) : Prop := V_X12_endAtom n  g k (fun r_31 g_29 k_30 => ((¬ r_31 = 0 → ((x1 = (40 : Int32) → V_X12_type_93 post n x1 g_29 k_30) ∧ (¬ x1 = (40 : Int32) → ((¬ x1 = (39 : Int32) → V_X12_type_148 post n x1 g_29 k_30) ∧ (x1 = (39 : Int32) → (((g_29 0 7) ≤ 0 → V_X12_type_148 post n x1 g_29 k_30) ∧ (¬ (g_29 0 7) ≤ 0 → V_X12_type_93 post n x1 g_29 k_30))))))) ∧ (r_31 = 0 → V_X12_drop  g_29 k_30 (fun r_38 g_36 k_37 => post r_38 g_36 k_37))))
def V_X12_type (n : Nat) (x1 : Int32) (g : St) (k : StL) (post : Int32 → St → StL → Prop) : Prop := ∀ g_39 : St, g_39 = us g 0 (0 : Int32) → V_X12_atomic x1 (fun r_40 => ((r_40 = 0 → ((x1 = (40 : Int32) → V_X12_type_62 post n x1 g_39 k) ∧ (¬ x1 = (40 : Int32) → ((x1 = (41 : Int32) → V_X12_type_62 post n x1 g_39 k) ∧ (¬ x1 = (41 : Int32) → ((x1 = (39 : Int32) → V_X12_type_62 post n x1 g_39 k) ∧ (¬ x1 = (39 : Int32) → ((x1 = (32 : Int32) → V_X12_type_62 post n x1 g_39 k) ∧ (¬ x1 = (32 : Int32) → ((x1 = (10 : Int32) → V_X12_type_62 post n x1 g_39 k) ∧ (¬ x1 = (10 : Int32) → V_X12_raise (1 : Int32) g_39 k (fun r_49 g_47 k_48 => post r_49 g_47 k_48)))))))))))) ∧ (¬ r_40 = 0 → (((g_39 0 7) ≤ 0 → post (0 : Int32) g_39 k) ∧ (¬ (g_39 0 7) ≤ 0 → V_X12_letter x1 g_39 k (fun g_51 k_52 => post (0 : Int32) g_51 k_52))))))
abbrev RM_X12_type : Room := { frames := 12, cells := 0, slots := 0, locals := 269 }
set_option maxHeartbeats 4000000 in
set_option maxRecDepth 100000 in
theorem m_X12_type (l : Launch) (D : va_G) (cI cC cZ cJ : ClassId) (ad : Nat → Nat) (n : Nat) (x1 : Int32) (g : St) (k : StL) {post : Int32 → St → StL → Prop} (h : V_X12_type n x1 g k post) : MetI l yX12_type cX12_type 2 .int RM_X12_type D (ty4 cI cC cZ cJ) (wM ad cI cC cZ cJ g k) [.ref (ad 0), .int x1] (fun u : St × StL => (wM ad cI cC cZ cJ u.1 u.2)) (fun (r : Int32) (u : St × StL) => post r u.1 u.2) := by
  refine mkI (by decide) (Nat.le_of_ble_eq_true rfl) ?_
  intro p e s m args below meth c A ls hC hr hlk hw hl
  have hx := hC.1
  have hb := hC.2.1
  have hl : lv_has ls 2 [(0, .ref (ad 0)), (1, .int x1)] := hl
  have w_148 : ∀ (n : Nat) (x1 : Int32) (g : St) (k : StL) (H : Heap) (locs : List Loc) (ls : Array Slot), V_X12_type_148 post n x1 g k → Wd D (ty4 cI cC cZ cJ) A s (wM ad cI cC cZ cJ g k) H locs → lv_has ls 2 [(0, .ref (ad 0)), (1, .int x1)] → W p l e RM_X12_type s m args below meth c H locs 0 0 (QI below D (ty4 cI cC cZ cJ) A args s (fun u : St × StL => (wM ad cI cC cZ cJ u.1 u.2)) (fun (r : Int32) (u : St × StL) => post r u.1 u.2)) (F0 m 148 ls []) := by
    intro n x1 g k H locs ls h hw hl
    unfold V_X12_type_148 at h
    refine lv_iload_n hx hb dX12_type_148 rfl (lv_at hl 1 rfl) ?_
    refine lv_bipush (v := (41 : Int32)) hx hb dX12_type_149 (by decide) ?_
    refine lv_icmp_eq (tgt := 156) hx hb dX12_type_151 (by decide) (fun c_1 => ?_) (fun c_1 => ?_)
    · have h := h.1 c_1
      refine lv_aload_n hx hb dX12_type_156 rfl (lv_at hl 0 rfl) ?_
      refine gt (v := .int (g 0 7)) kfX12_191 0 hC hw rfl rfl dX12_type_157 ?_
      refine lv_if_eq (tgt := 177) hx hb dX12_type_160 (by decide) (fun c_2 => ?_) (fun c_2 => ?_)
      · have h := h.1 c_2
        refine lv_aload_n hx hb dX12_type_177 rfl (lv_at hl 0 rfl) ?_
        refine cVIw (q0 := 0) kmX12_244 hC hw (m_X12_drop l D cI cC cZ cJ ad  g k h) rfl rfl ⟨by decide, by decide⟩ rfl rfl rfl hl.1 (Nat.le_of_ble_eq_true rfl) dX12_type_178 ⟨Nat.zero_le _, Nat.zero_le _⟩ rfl ?_
        intro r_5 u H locs h hw
        obtain ⟨g_3, k_4⟩ := u
        dsimp only at h hw
        exact rtI (wf := (fun u : St × StL => (wM ad cI cC cZ cJ u.1 u.2))) (g_3, k_4) hC hr hlk hw rfl h dX12_type_181
      · have h := h.2 c_2
        refine lv_aload_n hx hb dX12_type_163 rfl (lv_at hl 0 rfl) ?_
        refine gt (v := .ref (ad 14)) kfX12_113 0 hC hw rfl rfl dX12_type_164 ?_
        refine lv_aload_n hx hb dX12_type_167 rfl (lv_at hl 0 rfl) ?_
        refine gt (v := .int (g 0 7)) kfX12_191 0 hC hw rfl rfl dX12_type_168 ?_
        refine lv_iconst (v := (1 : Int32)) hx hb dX12_type_171 (by decide) ?_
        refine lv_isub hx hb dX12_type_172 ?_
        refine ldZ 14 2 hC hw rfl rfl h.1 dX12_type_173 ?_
        have h := h.2
        refine lv_if_eq (tgt := 182) hx hb dX12_type_174 (by decide) (fun c_6 => ?_) (fun c_6 => ?_)
        · have h := h.1 c_6
          refine lv_aload_n hx hb dX12_type_182 rfl (lv_at hl 0 rfl) ?_
          refine lv_dup hx hb dX12_type_183 rfl ?_
          refine gt (v := .int (g 0 7)) kfX12_191 0 hC hw rfl rfl dX12_type_184 ?_
          refine lv_iconst (v := (1 : Int32)) hx hb dX12_type_187 (by decide) ?_
          refine lv_isub hx hb dX12_type_188 ?_
          refine pwM_23 kpX12_191 hC hw dX12_type_189 (fun H locs g_7 eg_7 hw => ?_)
          have h := h g_7 eg_7
          refine lv_aload_n hx hb dX12_type_192 rfl (lv_at hl 0 rfl) ?_
          refine gt (v := .int (g_7 0 7)) kfX12_191 0 hC hw rfl rfl dX12_type_193 ?_
          refine lv_if_ne (tgt := 210) hx hb dX12_type_196 (by decide) (fun c_8 => ?_) (fun c_8 => ?_)
          · have h := h.1 c_8
            refine lv_aload_n hx hb dX12_type_210 rfl (lv_at hl 0 rfl) ?_
            refine lv_aload_n hx hb dX12_type_211 rfl (lv_at hl 0 rfl) ?_
            refine gt (v := .ref (ad 15)) kfX12_116 0 hC hw rfl rfl dX12_type_212 ?_
            refine lv_aload_n hx hb dX12_type_215 rfl (lv_at hl 0 rfl) ?_
            refine gt (v := .int (g_7 0 7)) kfX12_191 0 hC hw rfl rfl dX12_type_216 ?_
            refine ldI 15 0 hC hw rfl rfl h.1 dX12_type_219 ?_
            have h := h.2
            refine cVVw (q0 := 0) kmX12_217 hC hw (m_X12_add l D cI cC cZ cJ ad n (g_7 13 (g_7 0 7).toNatClampNeg) g_7 k h) rfl rfl ⟨by decide, by decide⟩ rfl rfl rfl hl.1 (Nat.le_of_ble_eq_true rfl) dX12_type_220 ⟨Nat.zero_le _, Nat.zero_le _⟩ rfl ?_
            intro u H locs h hw
            obtain ⟨g_9, k_10⟩ := u
            dsimp only at h hw
            refine lv_iconst (v := (0 : Int32)) hx hb dX12_type_223 (by decide) ?_
            exact rtI (wf := (fun u : St × StL => (wM ad cI cC cZ cJ u.1 u.2))) (g_9, k_10) hC hr hlk hw rfl h dX12_type_224
          · have h := h.2 c_8
            refine lv_aload_n hx hb dX12_type_199 rfl (lv_at hl 0 rfl) ?_
            refine lv_aload_n hx hb dX12_type_200 rfl (lv_at hl 0 rfl) ?_
            refine gt (v := .ref (ad 15)) kfX12_116 0 hC hw rfl rfl dX12_type_201 ?_
            refine lv_iconst (v := (0 : Int32)) hx hb dX12_type_204 (by decide) ?_
            refine ldI 15 0 hC hw rfl rfl h.1 dX12_type_205 ?_
            have h := h.2
            refine cVIw (q0 := 0) kmX12_248 hC hw (m_X12_run l D cI cC cZ cJ ad n (g_7 13 (0 : Int32).toNatClampNeg) g_7 k h) rfl rfl ⟨by decide, by decide⟩ rfl rfl rfl hl.1 (Nat.le_of_ble_eq_true rfl) dX12_type_206 ⟨Nat.zero_le _, Nat.zero_le _⟩ rfl ?_
            intro r_14 u H locs h hw
            obtain ⟨g_12, k_13⟩ := u
            dsimp only at h hw
            exact rtI (wf := (fun u : St × StL => (wM ad cI cC cZ cJ u.1 u.2))) (g_12, k_13) hC hr hlk hw rfl h dX12_type_209
        · have h := h.2 c_6
          refine lv_aload_n hx hb dX12_type_177 rfl (lv_at hl 0 rfl) ?_
          refine cVIw (q0 := 0) kmX12_244 hC hw (m_X12_drop l D cI cC cZ cJ ad  g k h) rfl rfl ⟨by decide, by decide⟩ rfl rfl rfl hl.1 (Nat.le_of_ble_eq_true rfl) dX12_type_178 ⟨Nat.zero_le _, Nat.zero_le _⟩ rfl ?_
          intro r_17 u H locs h hw
          obtain ⟨g_15, k_16⟩ := u
          dsimp only at h hw
          exact rtI (wf := (fun u : St × StL => (wM ad cI cC cZ cJ u.1 u.2))) (g_15, k_16) hC hr hlk hw rfl h dX12_type_181
    · have h := h.2 c_1
      refine lv_iconst (v := (0 : Int32)) hx hb dX12_type_154 (by decide) ?_
      exact rtI (wf := (fun u : St × StL => (wM ad cI cC cZ cJ u.1 u.2))) (g, k) hC hr hlk hw rfl h dX12_type_155
  have w_93 : ∀ (n : Nat) (x1 : Int32) (g : St) (k : StL) (H : Heap) (locs : List Loc) (ls : Array Slot), V_X12_type_93 post n x1 g k → Wd D (ty4 cI cC cZ cJ) A s (wM ad cI cC cZ cJ g k) H locs → lv_has ls 2 [(0, .ref (ad 0)), (1, .int x1)] → W p l e RM_X12_type s m args below meth c H locs 0 0 (QI below D (ty4 cI cC cZ cJ) A args s (fun u : St × StL => (wM ad cI cC cZ cJ u.1 u.2)) (fun (r : Int32) (u : St × StL) => post r u.1 u.2)) (F0 m 93 ls []) := by
    intro n x1 g k H locs ls h hw hl
    unfold V_X12_type_93 at h
    refine lv_aload_n hx hb dX12_type_93 rfl (lv_at hl 0 rfl) ?_
    refine gt (v := .int (g 0 7)) kfX12_191 0 hC hw rfl rfl dX12_type_94 ?_
    refine lv_bipush (v := (12 : Int32)) hx hb dX12_type_97 (by decide) ?_
    refine lv_icmp_ne (tgt := 107) hx hb dX12_type_99 (by decide) (fun c_18 => ?_) (fun c_18 => ?_)
    · have h := h.1 c_18
      refine lv_aload_n hx hb dX12_type_107 rfl (lv_at hl 0 rfl) ?_
      refine gt (v := .ref (ad 14)) kfX12_113 0 hC hw rfl rfl dX12_type_108 ?_
      refine lv_aload_n hx hb dX12_type_111 rfl (lv_at hl 0 rfl) ?_
      refine gt (v := .int (g 0 7)) kfX12_191 0 hC hw rfl rfl dX12_type_112 ?_
      refine lv_iload_n hx hb dX12_type_115 rfl (lv_at hl 1 rfl) ?_
      refine lv_bipush (v := (39 : Int32)) hx hb dX12_type_116 (by decide) ?_
      refine lv_icmp_ne (tgt := 125) hx hb dX12_type_118 (by decide) (fun c_19 => ?_) (fun c_19 => ?_)
      · have h := h.1 c_19
        refine lv_iconst (v := (0 : Int32)) hx hb dX12_type_125 (by decide) ?_
        refine swM_14 h.1 hC hw dX12_type_126 (fun H locs g_20 eg_20 hw => ?_)
        have h := h.2 g_20 eg_20
        refine lv_aload_n hx hb dX12_type_127 rfl (lv_at hl 0 rfl) ?_
        refine gt (v := .ref (ad 15)) kfX12_116 0 hC hw rfl rfl dX12_type_128 ?_
        refine lv_aload_n hx hb dX12_type_131 rfl (lv_at hl 0 rfl) ?_
        refine gt (v := .int (g_20 0 7)) kfX12_191 0 hC hw rfl rfl dX12_type_132 ?_
        refine lv_ldc (v := (1048576 : Int32)) hx hb hC.2.2.2.1 (hC.2.2.2.2 _ (List.mem_cons_of_mem _ kcX12_184)) dX12_type_135 ?_
        refine swM_15 h.1 hC hw dX12_type_137 (fun H locs g_21 eg_21 hw => ?_)
        have h := h.2 g_21 eg_21
        refine lv_aload_n hx hb dX12_type_138 rfl (lv_at hl 0 rfl) ?_
        refine lv_dup hx hb dX12_type_139 rfl ?_
        refine gt (v := .int (g_21 0 7)) kfX12_191 0 hC hw rfl rfl dX12_type_140 ?_
        refine lv_iconst (v := (1 : Int32)) hx hb dX12_type_143 (by decide) ?_
        refine lv_iadd hx hb dX12_type_144 ?_
        refine pwM_23 kpX12_191 hC hw dX12_type_145 (fun H locs g_22 eg_22 hw => ?_)
        have h := h g_22 eg_22
        exact w_148 n x1 g_22 k _ _ _ h hw (lv_sub hl [0, 1] rfl)
      · have h := h.2 c_19
        refine lv_iconst (v := (1 : Int32)) hx hb dX12_type_121 (by decide) ?_
        refine lv_goto (tgt := 126) hx hb dX12_type_122 (by decide) ?_
        refine swM_14 h.1 hC hw dX12_type_126 (fun H locs g_23 eg_23 hw => ?_)
        have h := h.2 g_23 eg_23
        refine lv_aload_n hx hb dX12_type_127 rfl (lv_at hl 0 rfl) ?_
        refine gt (v := .ref (ad 15)) kfX12_116 0 hC hw rfl rfl dX12_type_128 ?_
        refine lv_aload_n hx hb dX12_type_131 rfl (lv_at hl 0 rfl) ?_
        refine gt (v := .int (g_23 0 7)) kfX12_191 0 hC hw rfl rfl dX12_type_132 ?_
        refine lv_ldc (v := (1048576 : Int32)) hx hb hC.2.2.2.1 (hC.2.2.2.2 _ (List.mem_cons_of_mem _ kcX12_184)) dX12_type_135 ?_
        refine swM_15 h.1 hC hw dX12_type_137 (fun H locs g_24 eg_24 hw => ?_)
        have h := h.2 g_24 eg_24
        refine lv_aload_n hx hb dX12_type_138 rfl (lv_at hl 0 rfl) ?_
        refine lv_dup hx hb dX12_type_139 rfl ?_
        refine gt (v := .int (g_24 0 7)) kfX12_191 0 hC hw rfl rfl dX12_type_140 ?_
        refine lv_iconst (v := (1 : Int32)) hx hb dX12_type_143 (by decide) ?_
        refine lv_iadd hx hb dX12_type_144 ?_
        refine pwM_23 kpX12_191 hC hw dX12_type_145 (fun H locs g_25 eg_25 hw => ?_)
        have h := h g_25 eg_25
        exact w_148 n x1 g_25 k _ _ _ h hw (lv_sub hl [0, 1] rfl)
    · have h := h.2 c_18
      refine lv_aload_n hx hb dX12_type_102 rfl (lv_at hl 0 rfl) ?_
      refine cVIw (q0 := 0) kmX12_244 hC hw (m_X12_drop l D cI cC cZ cJ ad  g k h) rfl rfl ⟨by decide, by decide⟩ rfl rfl rfl hl.1 (Nat.le_of_ble_eq_true rfl) dX12_type_103 ⟨Nat.zero_le _, Nat.zero_le _⟩ rfl ?_
      intro r_28 u H locs h hw
      obtain ⟨g_26, k_27⟩ := u
      dsimp only at h hw
      exact rtI (wf := (fun u : St × StL => (wM ad cI cC cZ cJ u.1 u.2))) (g_26, k_27) hC hr hlk hw rfl h dX12_type_106
  have w_62 : ∀ (n : Nat) (x1 : Int32) (g : St) (k : StL) (H : Heap) (locs : List Loc) (ls : Array Slot), V_X12_type_62 post n x1 g k → Wd D (ty4 cI cC cZ cJ) A s (wM ad cI cC cZ cJ g k) H locs → lv_has ls 2 [(0, .ref (ad 0)), (1, .int x1)] → W p l e RM_X12_type s m args below meth c H locs 0 0 (QI below D (ty4 cI cC cZ cJ) A args s (fun u : St × StL => (wM ad cI cC cZ cJ u.1 u.2)) (fun (r : Int32) (u : St × StL) => post r u.1 u.2)) (F0 m 62 ls []) := by
    intro n x1 g k H locs ls h hw hl
    unfold V_X12_type_62 at h
    refine lv_aload_n hx hb dX12_type_62 rfl (lv_at hl 0 rfl) ?_
    refine cVIw (q0 := 0) kmX12_240 hC hw (m_X12_endAtom l D cI cC cZ cJ ad n  g k h) rfl rfl ⟨by decide, by decide⟩ rfl rfl rfl hl.1 (Nat.le_of_ble_eq_true rfl) dX12_type_63 ⟨Nat.zero_le _, Nat.zero_le _⟩ rfl ?_
    intro r_31 u H locs h hw
    obtain ⟨g_29, k_30⟩ := u
    dsimp only at h hw
    refine lv_if_ne (tgt := 74) hx hb dX12_type_66 (by decide) (fun c_32 => ?_) (fun c_32 => ?_)
    · have h := h.1 c_32
      refine lv_iload_n hx hb dX12_type_74 rfl (lv_at hl 1 rfl) ?_
      refine lv_bipush (v := (40 : Int32)) hx hb dX12_type_75 (by decide) ?_
      refine lv_icmp_eq (tgt := 93) hx hb dX12_type_77 (by decide) (fun c_33 => ?_) (fun c_33 => ?_)
      · have h := h.1 c_33
        exact w_93 n x1 g_29 k_30 _ _ _ h hw (lv_sub hl [0, 1] rfl)
      · have h := h.2 c_33
        refine lv_iload_n hx hb dX12_type_80 rfl (lv_at hl 1 rfl) ?_
        refine lv_bipush (v := (39 : Int32)) hx hb dX12_type_81 (by decide) ?_
        refine lv_icmp_ne (tgt := 148) hx hb dX12_type_83 (by decide) (fun c_34 => ?_) (fun c_34 => ?_)
        · have h := h.1 c_34
          exact w_148 n x1 g_29 k_30 _ _ _ h hw (lv_sub hl [0, 1] rfl)
        · have h := h.2 c_34
          refine lv_aload_n hx hb dX12_type_86 rfl (lv_at hl 0 rfl) ?_
          refine gt (v := .int (g_29 0 7)) kfX12_191 0 hC hw rfl rfl dX12_type_87 ?_
          refine lv_if_le (tgt := 148) hx hb dX12_type_90 (by decide) (fun c_35 => ?_) (fun c_35 => ?_)
          · have h := h.1 c_35
            exact w_148 n x1 g_29 k_30 _ _ _ h hw (lv_sub hl [0, 1] rfl)
          · have h := h.2 c_35
            exact w_93 n x1 g_29 k_30 _ _ _ h hw (lv_sub hl [0, 1] rfl)
    · have h := h.2 c_32
      refine lv_aload_n hx hb dX12_type_69 rfl (lv_at hl 0 rfl) ?_
      refine cVIw (q0 := 0) kmX12_244 hC hw (m_X12_drop l D cI cC cZ cJ ad  g_29 k_30 h) rfl rfl ⟨by decide, by decide⟩ rfl rfl rfl hl.1 (Nat.le_of_ble_eq_true rfl) dX12_type_70 ⟨Nat.zero_le _, Nat.zero_le _⟩ rfl ?_
      intro r_38 u H locs h hw
      obtain ⟨g_36, k_37⟩ := u
      dsimp only at h hw
      exact rtI (wf := (fun u : St × StL => (wM ad cI cC cZ cJ u.1 u.2))) (g_36, k_37) hC hr hlk hw rfl h dX12_type_73
  unfold V_X12_type at h
  refine lv_aload_n hx hb dX12_type_0 rfl (lv_at hl 0 rfl) ?_
  refine lv_iconst (v := (0 : Int32)) hx hb dX12_type_1 (by decide) ?_
  refine pwM_0 kpX12_175 hC hw dX12_type_2 (fun H locs g_39 eg_39 hw => ?_)
  have h := h g_39 eg_39
  refine lv_iload_n hx hb dX12_type_5 rfl (lv_at hl 1 rfl) ?_
  refine cSI ksX12_233 hC (m_X12_atomic l x1 h) rfl rfl ⟨by decide, by decide⟩ rfl hl.1 (Nat.le_of_ble_eq_true rfl) dX12_type_6 ⟨Nat.zero_le _, Nat.zero_le _⟩ rfl ?_
  intro r_40 h
  refine lv_if_eq (tgt := 26) hx hb dX12_type_9 (by decide) (fun c_41 => ?_) (fun c_41 => ?_)
  · have h := h.1 c_41
    refine lv_iload_n hx hb dX12_type_26 rfl (lv_at hl 1 rfl) ?_
    refine lv_bipush (v := (40 : Int32)) hx hb dX12_type_27 (by decide) ?_
    refine lv_icmp_eq (tgt := 62) hx hb dX12_type_29 (by decide) (fun c_42 => ?_) (fun c_42 => ?_)
    · have h := h.1 c_42
      exact w_62 n x1 g_39 k _ _ _ h hw (lv_sub hl [0, 1] rfl)
    · have h := h.2 c_42
      refine lv_iload_n hx hb dX12_type_32 rfl (lv_at hl 1 rfl) ?_
      refine lv_bipush (v := (41 : Int32)) hx hb dX12_type_33 (by decide) ?_
      refine lv_icmp_eq (tgt := 62) hx hb dX12_type_35 (by decide) (fun c_43 => ?_) (fun c_43 => ?_)
      · have h := h.1 c_43
        exact w_62 n x1 g_39 k _ _ _ h hw (lv_sub hl [0, 1] rfl)
      · have h := h.2 c_43
        refine lv_iload_n hx hb dX12_type_38 rfl (lv_at hl 1 rfl) ?_
        refine lv_bipush (v := (39 : Int32)) hx hb dX12_type_39 (by decide) ?_
        refine lv_icmp_eq (tgt := 62) hx hb dX12_type_41 (by decide) (fun c_44 => ?_) (fun c_44 => ?_)
        · have h := h.1 c_44
          exact w_62 n x1 g_39 k _ _ _ h hw (lv_sub hl [0, 1] rfl)
        · have h := h.2 c_44
          refine lv_iload_n hx hb dX12_type_44 rfl (lv_at hl 1 rfl) ?_
          refine lv_bipush (v := (32 : Int32)) hx hb dX12_type_45 (by decide) ?_
          refine lv_icmp_eq (tgt := 62) hx hb dX12_type_47 (by decide) (fun c_45 => ?_) (fun c_45 => ?_)
          · have h := h.1 c_45
            exact w_62 n x1 g_39 k _ _ _ h hw (lv_sub hl [0, 1] rfl)
          · have h := h.2 c_45
            refine lv_iload_n hx hb dX12_type_50 rfl (lv_at hl 1 rfl) ?_
            refine lv_bipush (v := (10 : Int32)) hx hb dX12_type_51 (by decide) ?_
            refine lv_icmp_eq (tgt := 62) hx hb dX12_type_53 (by decide) (fun c_46 => ?_) (fun c_46 => ?_)
            · have h := h.1 c_46
              exact w_62 n x1 g_39 k _ _ _ h hw (lv_sub hl [0, 1] rfl)
            · have h := h.2 c_46
              refine lv_aload_n hx hb dX12_type_56 rfl (lv_at hl 0 rfl) ?_
              refine lv_iconst (v := (1 : Int32)) hx hb dX12_type_57 (by decide) ?_
              refine cVIw (q0 := 0) kmX12_230 hC hw (m_X12_raise l D cI cC cZ cJ ad (1 : Int32) g_39 k h) rfl rfl ⟨by decide, by decide⟩ rfl rfl rfl hl.1 (Nat.le_of_ble_eq_true rfl) dX12_type_58 ⟨Nat.zero_le _, Nat.zero_le _⟩ rfl ?_
              intro r_49 u H locs h hw
              obtain ⟨g_47, k_48⟩ := u
              dsimp only at h hw
              exact rtI (wf := (fun u : St × StL => (wM ad cI cC cZ cJ u.1 u.2))) (g_47, k_48) hC hr hlk hw rfl h dX12_type_61
  · have h := h.2 c_41
    refine lv_aload_n hx hb dX12_type_12 rfl (lv_at hl 0 rfl) ?_
    refine gt (v := .int (g_39 0 7)) kfX12_191 0 hC hw rfl rfl dX12_type_13 ?_
    refine lv_if_le (tgt := 24) hx hb dX12_type_16 (by decide) (fun c_50 => ?_) (fun c_50 => ?_)
    · have h := h.1 c_50
      refine lv_iconst (v := (0 : Int32)) hx hb dX12_type_24 (by decide) ?_
      exact rtI (wf := (fun u : St × StL => (wM ad cI cC cZ cJ u.1 u.2))) (g_39, k) hC hr hlk hw rfl h dX12_type_25
    · have h := h.2 c_50
      refine lv_aload_n hx hb dX12_type_19 rfl (lv_at hl 0 rfl) ?_
      refine lv_iload_n hx hb dX12_type_20 rfl (lv_at hl 1 rfl) ?_
      refine cVVw (q0 := 0) kmX12_237 hC hw (m_X12_letter l D cI cC cZ cJ ad x1 g_39 k h) rfl rfl ⟨by decide, by decide⟩ rfl rfl rfl hl.1 (Nat.le_of_ble_eq_true rfl) dX12_type_21 ⟨Nat.zero_le _, Nat.zero_le _⟩ rfl ?_
      intro u H locs h hw
      obtain ⟨g_51, k_52⟩ := u
      dsimp only at h hw
      refine lv_iconst (v := (0 : Int32)) hx hb dX12_type_24 (by decide) ?_
      exact rtI (wf := (fun u : St × StL => (wM ad cI cC cZ cJ u.1 u.2))) (g_51, k_52) hC hr hlk hw rfl h dX12_type_25
