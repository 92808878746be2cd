def V_X12_cast_70 (post : St → StL → Prop) : Nat → Int32 → Int32 → St → StL → Prop
  | 0, _, _, _, _ => False
  | n + 1, x3, x4, g, k => (((g 0 12) ≤ (x4 + (1 : Int32)) → V_X12_pop x3 g k (fun g_2 k_3 => post g_2 k_3)) ∧ (¬ (g 0 12) ≤ (x4 + (1 : Int32)) → V_X12_pop x3 g k (fun g_5 k_6 => V_X12_cast_70 post n x3 x4 g_5 k_6)))
def V_X12_cast_24 (post : St → StL → Prop) : Nat → Int32 → Int32 → Int32 → St → StL → Prop
  | 0, _, _, _, _, _ => False
  | n + 1, x2, x3, x4, g, k => ((x4 < 0 → ∀ g_9 : St, g_9 = us g 18 (3 : Int32) → post g_9 k) ∧ (¬ x4 < 0 → (vp_in x4 1002 ∧ ((¬ (g 15 x4.toNatClampNeg) = (6 : Int32) → ∀ x_11 : Int32, x_11 = x4 + (-1 : Int32) → V_X12_cast_24 post n x2 x3 x_11 g k) ∧ ((g 15 x4.toNatClampNeg) = (6 : Int32) → (vp_in x4 1002 ∧ (((g 18 x4.toNatClampNeg) = 0 → ∀ x_13 : Int32, x_13 = x4 + (-1 : Int32) → V_X12_cast_24 post n x2 x3 x_13 g k) ∧ (¬ (g 18 x4.toNatClampNeg) = 0 → (vp_in x4 1002 ∧ (vp_in (g 20 x4.toNatClampNeg) 1100 ∧ (((g 21 (g 20 x4.toNatClampNeg).toNatClampNeg) = x2 → V_X12_cast_70 post n x3 x4 g k) ∧ (¬ (g 21 (g 20 x4.toNatClampNeg).toNatClampNeg) = x2 → ∀ x_15 : Int32, x_15 = x4 + (-1 : Int32) → V_X12_cast_24 post n x2 x3 x_15 g k))))))))))))
def V_X12_cast (n : Nat) (x1 : Int32) (g : St) (k : StL) (post : St → StL → Prop) : Prop := (vp_in x1 1100 ∧ ∀ x_16 : Int32, x_16 = (g 21 x1.toNatClampNeg) → (vp_in (x1 + (1 : Int32)) 1100 ∧ ∀ x_17 : Int32, x_17 = (g 21 (x1 + (1 : Int32)).toNatClampNeg) → ∀ x_18 : Int32, x_18 = ((g 0 12) - (1 : Int32)) → V_X12_cast_24 post n x_16 x_17 x_18 g k))
abbrev RM_X12_cast : Room := { frames := 1, cells := 0, slots := 0, locals := 21 }
set_option maxHeartbeats 4000000 in
set_option maxRecDepth 100000 in
theorem m_X12_cast (l : Launch) (D : va_G) (cI cC cZ cJ : ClassId) (ad : Nat → Nat) (n : Nat) (x1 : Int32) (g : St) (k : StL) {post : St → StL → Prop} (h : V_X12_cast n x1 g k post) : MetV l yX12_cast cX12_cast 5 RM_X12_cast D (ty4 cI cC cZ cJ) (wM ad cI cC cZ cJ g k) [.ref (ad 0), .int x1] (fun u : St × StL => (wM ad cI cC cZ cJ u.1 u.2)) (fun u : St × StL => post u.1 u.2) := by
  refine mkV (by decide) (Nat.le_of_ble_eq_true rfl) ?_
  intro p e s m args below meth c A ls hC hr hlk hw hl
  have hx := hC.1
  have hb := hC.2.1
  have hl : lv_has ls 5 [(0, .ref (ad 0)), (1, .int x1)] := hl
  have w_70 : ∀ (n : Nat) (x3 : Int32) (x4 : Int32) (g : St) (k : StL) (H : Heap) (locs : List Loc) (ls : Array Slot), V_X12_cast_70 post n x3 x4 g k → Wd D (ty4 cI cC cZ cJ) A s (wM ad cI cC cZ cJ g k) H locs → lv_has ls 5 [(0, .ref (ad 0)), (3, .int x3), (4, .int x4)] → W p l e RM_X12_cast s m args below meth c H locs 0 0 (QV below D (ty4 cI cC cZ cJ) A args s (fun u : St × StL => (wM ad cI cC cZ cJ u.1 u.2)) (fun u : St × StL => post u.1 u.2)) (F0 m 70 ls []) := by
    intro n
    induction n with
    | zero =>
      intro x3 x4 g k H locs ls h
      exact False.elim h
    | succ n ih =>
      intro x3 x4 g k H locs ls h hw hl
      rw [V_X12_cast_70] at h
      refine lv_aload_n hx hb dX12_cast_70 rfl (lv_at hl 0 rfl) ?_
      refine gt (v := .int (g 0 12)) kfX12_278 0 hC hw rfl rfl dX12_cast_71 ?_
      refine lv_iload hx hb dX12_cast_74 (lv_at hl 2 rfl) ?_
      refine lv_iconst (v := (1 : Int32)) hx hb dX12_cast_76 (by decide) ?_
      refine lv_iadd hx hb dX12_cast_77 ?_
      refine lv_icmp_le (tgt := 89) hx hb dX12_cast_78 (by decide) (fun c_1 => ?_) (fun c_1 => ?_)
      · have h := h.1 c_1
        refine lv_aload_n hx hb dX12_cast_89 rfl (lv_at hl 0 rfl) ?_
        refine lv_iload_n hx hb dX12_cast_90 rfl (lv_at hl 1 rfl) ?_
        refine cVVw (q0 := 0) kmX12_347 hC hw (m_X12_pop l D cI cC cZ cJ ad x3 g k h) rfl rfl ⟨by decide, by decide⟩ rfl rfl rfl hl.1 (Nat.le_of_ble_eq_true rfl) dX12_cast_91 ⟨Nat.zero_le _, Nat.zero_le _⟩ rfl ?_
        intro u H locs h hw
        obtain ⟨g_2, k_3⟩ := u
        dsimp only at h hw
        exact rtV (wf := (fun u : St × StL => (wM ad cI cC cZ cJ u.1 u.2))) (g_2, k_3) hC hr hlk hw h dX12_cast_94
      · have h := h.2 c_1
        refine lv_aload_n hx hb dX12_cast_81 rfl (lv_at hl 0 rfl) ?_
        refine lv_iload_n hx hb dX12_cast_82 rfl (lv_at hl 1 rfl) ?_
        refine cVVw (q0 := 0) kmX12_347 hC hw (m_X12_pop l D cI cC cZ cJ ad x3 g k h) rfl rfl ⟨by decide, by decide⟩ rfl rfl rfl hl.1 (Nat.le_of_ble_eq_true rfl) dX12_cast_83 ⟨Nat.zero_le _, Nat.zero_le _⟩ rfl ?_
        intro u H locs h hw
        obtain ⟨g_5, k_6⟩ := u
        dsimp only at h hw
        refine lv_goto (tgt := 70) hx hb dX12_cast_86 (by decide) ?_
        exact ih x3 x4 g_5 k_6 _ _ _ h hw (lv_sub hl [0, 1, 2] rfl)
  have w_24 : ∀ (n : Nat) (x2 : Int32) (x3 : Int32) (x4 : Int32) (g : St) (k : StL) (H : Heap) (locs : List Loc) (ls : Array Slot), V_X12_cast_24 post n x2 x3 x4 g k → Wd D (ty4 cI cC cZ cJ) A s (wM ad cI cC cZ cJ g k) H locs → lv_has ls 5 [(0, .ref (ad 0)), (2, .int x2), (3, .int x3), (4, .int x4)] → W p l e RM_X12_cast s m args below meth c H locs 0 0 (QV below D (ty4 cI cC cZ cJ) A args s (fun u : St × StL => (wM ad cI cC cZ cJ u.1 u.2)) (fun u : St × StL => post u.1 u.2)) (F0 m 24 ls []) := by
    intro n
    induction n with
    | zero =>
      intro x2 x3 x4 g k H locs ls h
      exact False.elim h
    | succ n ih =>
      intro x2 x3 x4 g k H locs ls h hw hl
      rw [V_X12_cast_24] at h
      refine lv_iload hx hb dX12_cast_24 (lv_at hl 3 rfl) ?_
      refine lv_if_lt (tgt := 101) hx hb dX12_cast_26 (by decide) (fun c_8 => ?_) (fun c_8 => ?_)
      · have h := h.1 c_8
        refine lv_aload_n hx hb dX12_cast_101 rfl (lv_at hl 0 rfl) ?_
        refine lv_iconst (v := (3 : Int32)) hx hb dX12_cast_102 (by decide) ?_
        refine pwM_42 kpX12_299 hC hw dX12_cast_103 (fun H locs g_9 eg_9 hw => ?_)
        have h := h g_9 eg_9
        exact rtV (wf := (fun u : St × StL => (wM ad cI cC cZ cJ u.1 u.2))) (g_9, k) hC hr hlk hw h dX12_cast_106
      · have h := h.2 c_8
        refine lv_aload_n hx hb dX12_cast_29 rfl (lv_at hl 0 rfl) ?_
        refine gt (v := .ref (ad 17)) kfX12_122 0 hC hw rfl rfl dX12_cast_30 ?_
        refine lv_iload hx hb dX12_cast_33 (lv_at hl 3 rfl) ?_
        refine ldI 17 0 hC hw rfl rfl h.1 dX12_cast_35 ?_
        have h := h.2
        refine lv_bipush (v := (6 : Int32)) hx hb dX12_cast_36 (by decide) ?_
        refine lv_icmp_ne (tgt := 95) hx hb dX12_cast_38 (by decide) (fun c_10 => ?_) (fun c_10 => ?_)
        · have h := h.1 c_10
          obtain ⟨x_11, ex_11⟩ : ∃ y : Int32, y = x4 + (-1 : Int32) := ⟨_, rfl⟩
          have h := h x_11 ex_11
          refine lv_iinc (v := x_11) (lv' := [(4, .int x_11), (0, .ref (ad 0)), (2, .int x2), (3, .int x3)]) hx hb dX12_cast_95 hl (k := 3) rfl (by rw [ex_11]; rfl) (by decide) rfl (fun ls hl => ?_)
          refine lv_goto (tgt := 24) hx hb dX12_cast_98 (by decide) ?_
          exact ih x2 x3 x_11 g k _ _ _ h hw (lv_sub hl [1, 2, 3, 0] rfl)
        · have h := h.2 c_10
          refine lv_aload_n hx hb dX12_cast_41 rfl (lv_at hl 0 rfl) ?_
          refine gt (v := .ref (ad 20)) kfX12_131 0 hC hw rfl rfl dX12_cast_42 ?_
          refine lv_iload hx hb dX12_cast_45 (lv_at hl 3 rfl) ?_
          refine ldI 20 0 hC hw rfl rfl h.1 dX12_cast_47 ?_
          have h := h.2
          refine lv_if_eq (tgt := 95) hx hb dX12_cast_48 (by decide) (fun c_12 => ?_) (fun c_12 => ?_)
          · have h := h.1 c_12
            obtain ⟨x_13, ex_13⟩ : ∃ y : Int32, y = x4 + (-1 : Int32) := ⟨_, rfl⟩
            have h := h x_13 ex_13
            refine lv_iinc (v := x_13) (lv' := [(4, .int x_13), (0, .ref (ad 0)), (2, .int x2), (3, .int x3)]) hx hb dX12_cast_95 hl (k := 3) rfl (by rw [ex_13]; rfl) (by decide) rfl (fun ls hl => ?_)
            refine lv_goto (tgt := 24) hx hb dX12_cast_98 (by decide) ?_
            exact ih x2 x3 x_13 g k _ _ _ h hw (lv_sub hl [1, 2, 3, 0] rfl)
          · have h := h.2 c_12
            refine lv_aload_n hx hb dX12_cast_51 rfl (lv_at hl 0 rfl) ?_
            refine gt (v := .ref (ad 23)) kfX12_140 0 hC hw rfl rfl dX12_cast_52 ?_
            refine lv_aload_n hx hb dX12_cast_55 rfl (lv_at hl 0 rfl) ?_
            refine gt (v := .ref (ad 22)) kfX12_137 0 hC hw rfl rfl dX12_cast_56 ?_
            refine lv_iload hx hb dX12_cast_59 (lv_at hl 3 rfl) ?_
            refine ldI 22 0 hC hw rfl rfl h.1 dX12_cast_61 ?_
            have h := h.2
            refine ldI 23 0 hC hw rfl rfl h.1 dX12_cast_62 ?_
            have h := h.2
            refine lv_iload_n hx hb dX12_cast_63 rfl (lv_at hl 1 rfl) ?_
            refine lv_icmp_eq (tgt := 70) hx hb dX12_cast_64 (by decide) (fun c_14 => ?_) (fun c_14 => ?_)
            · have h := h.1 c_14
              exact w_70 n x3 x4 g k _ _ _ h hw (lv_sub hl [0, 2, 3] rfl)
            · have h := h.2 c_14
              refine lv_goto (tgt := 95) hx hb dX12_cast_67 (by decide) ?_
              obtain ⟨x_15, ex_15⟩ : ∃ y : Int32, y = x4 + (-1 : Int32) := ⟨_, rfl⟩
              have h := h x_15 ex_15
              refine lv_iinc (v := x_15) (lv' := [(4, .int x_15), (0, .ref (ad 0)), (2, .int x2), (3, .int x3)]) hx hb dX12_cast_95 hl (k := 3) rfl (by rw [ex_15]; rfl) (by decide) rfl (fun ls hl => ?_)
              refine lv_goto (tgt := 24) hx hb dX12_cast_98 (by decide) ?_
              exact ih x2 x3 x_15 g k _ _ _ h hw (lv_sub hl [1, 2, 3, 0] rfl)
  unfold V_X12_cast at h
  refine lv_aload_n hx hb dX12_cast_0 rfl (lv_at hl 0 rfl) ?_
  refine gt (v := .ref (ad 23)) kfX12_140 0 hC hw rfl rfl dX12_cast_1 ?_
  refine lv_iload_n hx hb dX12_cast_4 rfl (lv_at hl 1 rfl) ?_
  refine ldI 23 0 hC hw rfl rfl h.1 dX12_cast_5 ?_
  have h := h.2
  refine lv_topi (fun x_16 ex_16 => ?_)
  have h := h x_16 ex_16
  refine lv_istore_n (lv' := [(2, .int x_16), (0, .ref (ad 0)), (1, .int x1)]) hx hb dX12_cast_6 rfl hl (by decide) rfl (fun ls hl => ?_)
  refine lv_aload_n hx hb dX12_cast_7 rfl (lv_at hl 1 rfl) ?_
  refine gt (v := .ref (ad 23)) kfX12_140 0 hC hw rfl rfl dX12_cast_8 ?_
  refine lv_iload_n hx hb dX12_cast_11 rfl (lv_at hl 2 rfl) ?_
  refine lv_iconst (v := (1 : Int32)) hx hb dX12_cast_12 (by decide) ?_
  refine lv_iadd hx hb dX12_cast_13 ?_
  refine ldI 23 0 hC hw rfl rfl h.1 dX12_cast_14 ?_
  have h := h.2
  refine lv_topi (fun x_17 ex_17 => ?_)
  have h := h x_17 ex_17
  refine lv_istore_n (lv' := [(3, .int x_17), (2, .int x_16), (0, .ref (ad 0)), (1, .int x1)]) hx hb dX12_cast_15 rfl hl (by decide) rfl (fun ls hl => ?_)
  refine lv_aload_n hx hb dX12_cast_16 rfl (lv_at hl 2 rfl) ?_
  refine gt (v := .int (g 0 12)) kfX12_278 0 hC hw rfl rfl dX12_cast_17 ?_
  refine lv_iconst (v := (1 : Int32)) hx hb dX12_cast_20 (by decide) ?_
  refine lv_isub hx hb dX12_cast_21 ?_
  refine lv_topi (fun x_18 ex_18 => ?_)
  have h := h x_18 ex_18
  refine lv_istore (lv' := [(4, .int x_18), (3, .int x_17), (2, .int x_16), (0, .ref (ad 0)), (1, .int x1)]) hx hb dX12_cast_22 hl (by decide) rfl (fun ls hl => ?_)
  exact w_24 n x_16 x_17 x_18 g k _ _ _ h hw (lv_sub hl [3, 2, 1, 0] rfl)
def V_X12_fail (x1 : Int32) (g : St) (k : StL) (post : Int32 → St → StL → Prop) : Prop := ∀ g_1 : St, g_1 = us g 18 x1 → post (1048576 : Int32) g_1 k
abbrev RM_X12_fail : Room := { frames := 0, cells := 0, slots := 0, locals := 0 }
set_option maxHeartbeats 4000000 in
set_option maxRecDepth 100000 in
theorem m_X12_fail (l : Launch) (D : va_G) (cI cC cZ cJ : ClassId) (ad : Nat → Nat) (x1 : Int32) (g : St) (k : StL) {post : Int32 → St → StL → Prop} (h : V_X12_fail x1 g k post) : MetI l yX12_fail cX12_fail 2 .int RM_X12_fail D (ty4 cI cC cZ cJ) (wM ad cI cC cZ cJ g k) [.ref (ad 0), .int x1] (fun u : St × StL => (wM ad cI cC cZ cJ u.1 u.2)) (fun (r : Int32) (u : St × StL) => post r u.1 u.2) := by
  refine mkI (by decide) (Nat.le_of_ble_eq_true rfl) ?_
  intro p e s m args below meth c A ls hC hr hlk hw hl
  have hx := hC.1
  have hb := hC.2.1
  have hl : lv_has ls 2 [(0, .ref (ad 0)), (1, .int x1)] := hl
  unfold V_X12_fail at h
  refine lv_aload_n hx hb dX12_fail_0 rfl (lv_at hl 0 rfl) ?_
  refine lv_iload_n hx hb dX12_fail_1 rfl (lv_at hl 1 rfl) ?_
  refine pwM_42 kpX12_299 hC hw dX12_fail_2 (fun H locs g_1 eg_1 hw => ?_)
  have h := h g_1 eg_1
  refine lv_ldc (v := (1048576 : Int32)) hx hb hC.2.2.2.1 (hC.2.2.2.2 _ (List.mem_cons_of_mem _ kcX12_184)) dX12_fail_5 ?_
  exact rtI (wf := (fun u : St × StL => (wM ad cI cC cZ cJ u.1 u.2))) (g_1, k) hC hr hlk hw rfl h dX12_fail_7
def V_X12_lists_106 (post : Int32 → St → StL → Prop) : Nat → Int32 → Int32 → Int32 → St → StL → Prop
  | 0, _, _, _, _, _ => False
  | n + 1, x2, x6, x7, g, k => ((x7 < 0 → post x6 g k) ∧ (¬ x7 < 0 → V_X12_make n (1 : Int32) (2 : Int32) g k (fun r_4 g_2 k_3 => (vp_in (x2 + x7) 1100 ∧ (vp_in ((8 : Int32) * r_4) 1344 ∧ ∀ g_5 : St, g_5 = up g_2 10 ((8 : Int32) * r_4).toNatClampNeg (g_2 21 (x2 + x7).toNatClampNeg) → (vp_in (((8 : Int32) * r_4) + (1 : Int32)) 1344 ∧ ∀ g_6 : St, g_6 = up g_5 10 (((8 : Int32) * r_4) + (1 : Int32)).toNatClampNeg x6 → V_X12_code (4 : Int32) ((2000 : Int32) + r_4) (fun r_7 => ∀ x_8 : Int32, x_8 = x7 + (-1 : Int32) → V_X12_lists_106 post n x2 r_7 x_8 g_6 k_3)))))))
def V_X12_lists_63 (post : Int32 → St → StL → Prop) (n : Nat) (x1 : Int32) (x2 : Int32) (y0 : Int32) (g : St) (k : StL) : Prop := V_X12_room n ((2 : Int32) * y0) g k (fun r_11 g_9 k_10 => ((¬ r_11 = 0 → ((¬ x1 = (10 : Int32) → ∀ x_14 : Int32, x_14 = (1048576 : Int32) → ∀ x_15 : Int32, x_15 = (y0 - (1 : Int32)) → V_X12_lists_106 post n x2 x_14 x_15 g_9 k_10) ∧ (x1 = (10 : Int32) → (vp_in (x2 + (1 : Int32)) 1100 ∧ ∀ x_16 : Int32, x_16 = (g_9 21 (x2 + (1 : Int32)).toNatClampNeg) → ∀ x_17 : Int32, x_17 = (y0 - (1 : Int32)) → V_X12_lists_106 post n x2 x_16 x_17 g_9 k_10)))) ∧ (r_11 = 0 → post (1048576 : Int32) g_9 k_10)))
def V_X12_lists_188 (post : Int32 → St → StL → Prop) (n : Nat) (x1 : Int32) (x2 : Int32) (x3 : Int32) (x4 : Int32) (g : St) (k : StL) : Prop := ((x4 = (4 : Int32) → ((¬ x1 = (8 : Int32) → ((¬ x1 = (9 : Int32) → ((¬ x1 = (11 : Int32) → (vp_in (x2 + (1 : Int32)) 1100 ∧ V_X12_setCdr x3 (g 21 (x2 + (1 : Int32)).toNatClampNeg) g k (fun g_22 k_23 => post x3 g_22 k_23))) ∧ (x1 = (11 : Int32) → (vp_in (x2 + (1 : Int32)) 1100 ∧ V_X12_setCar x3 (g 21 (x2 + (1 : Int32)).toNatClampNeg) g k (fun g_25 k_26 => post x3 g_25 k_26))))) ∧ (x1 = (9 : Int32) → V_X12_cdr x3 g k (fun r_30 g_28 k_29 => post r_30 g_28 k_29)))) ∧ (x1 = (8 : Int32) → V_X12_car x3 g k (fun r_33 g_31 k_32 => post r_33 g_31 k_32)))) ∧ (¬ x4 = (4 : Int32) → V_X12_fail (4 : Int32) g k (fun r_36 g_34 k_35 => post r_36 g_34 k_35)))
def V_X12_lists (n : Nat) (x1 : Int32) (x2 : Int32) (g : St) (k : StL) (post : Int32 → St → StL → Prop) : Prop := (vp_in x2 1100 ∧ ∀ x_37 : Int32, x_37 = (g 21 x2.toNatClampNeg) → V_X12_sortOf x_37 (fun r_38 => ((¬ x1 = (14 : Int32) → ((x1 = (10 : Int32) → ((¬ x1 = (10 : Int32) → V_X12_lists_63 post n x1 x2 ((g 0 13) - x2) g k) ∧ (x1 = (10 : Int32) → V_X12_lists_63 post n x1 x2 (1 : Int32) g k))) ∧ (¬ x1 = (10 : Int32) → ((¬ x1 = (13 : Int32) → (((10 : Int32) ≤ x1 → V_X12_lists_188 post n x1 x2 x_37 r_38 g k) ∧ (¬ (10 : Int32) ≤ x1 → ((¬ x_37 = (1048576 : Int32) → V_X12_lists_188 post n x1 x2 x_37 r_38 g k) ∧ (x_37 = (1048576 : Int32) → post (1048576 : Int32) g k))))) ∧ (x1 = (13 : Int32) → ((¬ x1 = (10 : Int32) → V_X12_lists_63 post n x1 x2 ((g 0 13) - x2) g k) ∧ (x1 = (10 : Int32) → V_X12_lists_63 post n x1 x2 (1 : Int32) g k))))))) ∧ (x1 = (14 : Int32) → ((r_38 = (4 : Int32) → V_X12_truth (0 : Int32) g k (fun r_49 g_47 k_48 => post r_49 g_47 k_48)) ∧ (¬ r_38 = (4 : Int32) → V_X12_truth (1 : Int32) g k (fun r_52 g_50 k_51 => post r_52 g_50 k_51)))))))
abbrev RM_X12_lists : Room := { frames := 5, cells := 0, slots := 0, locals := 109 }
set_option maxHeartbeats 4000000 in
set_option maxRecDepth 100000 in
theorem m_X12_lists (l : Launch) (D : va_G) (cI cC cZ cJ : ClassId) (ad : Nat → Nat) (n : Nat) (x1 : Int32) (x2 : Int32) (g : St) (k : StL) {post : Int32 → St → StL → Prop} (h : V_X12_lists n x1 x2 g k post) : MetI l yX12_lists cX12_lists 9 .int RM_X12_lists D (ty4 cI cC cZ cJ) (wM ad cI cC cZ cJ g k) [.ref (ad 0), .int x1, .int x2] (fun u : St × StL => (wM ad cI cC cZ cJ u.1 u.2)) (fun (r : Int32) (u : St × StL) => post r u.1 u.2) := by
  refine mkI (by decide) (Nat.le_of_ble_eq_true rfl) ?_
  intro p e s m args below meth c A ls hC hr hlk hw hl
  have hx := hC.1
  have hb := hC.2.1
  have hl : lv_has ls 9 [(0, .ref (ad 0)), (1, .int x1), (2, .int x2)] := hl
  have w_106 : ∀ (n : Nat) (x2 : Int32) (x6 : Int32) (x7 : Int32) (g : St) (k : StL) (H : Heap) (locs : List Loc) (ls : Array Slot), V_X12_lists_106 post n x2 x6 x7 g k → Wd D (ty4 cI cC cZ cJ) A s (wM ad cI cC cZ cJ g k) H locs → lv_has ls 9 [(0, .ref (ad 0)), (2, .int x2), (6, .int x6), (7, .int x7)] → W p l e RM_X12_lists s m args below meth c H locs 0 0 (QI below D (ty4 cI cC cZ cJ) A args s (fun u : St × StL => (wM ad cI cC cZ cJ u.1 u.2)) (fun (r : Int32) (u : St × StL) => post r u.1 u.2)) (F0 m 106 ls []) := by
    intro n
    induction n with
    | zero =>
      intro x2 x6 x7 g k H locs ls h
      exact False.elim h
    | succ n ih =>
      intro x2 x6 x7 g k H locs ls h hw hl
      rw [V_X12_lists_106] at h
      refine lv_iload hx hb dX12_lists_106 (lv_at hl 3 rfl) ?_
      refine lv_if_lt (tgt := 170) hx hb dX12_lists_108 (by decide) (fun c_1 => ?_) (fun c_1 => ?_)
      · have h := h.1 c_1
        refine lv_iload hx hb dX12_lists_170 (lv_at hl 2 rfl) ?_
        exact rtI (wf := (fun u : St × StL => (wM ad cI cC cZ cJ u.1 u.2))) (g, k) hC hr hlk hw rfl h dX12_lists_172
      · have h := h.2 c_1
        refine lv_aload_n hx hb dX12_lists_111 rfl (lv_at hl 0 rfl) ?_
        refine lv_iconst (v := (1 : Int32)) hx hb dX12_lists_112 (by decide) ?_
        refine lv_iconst (v := (2 : Int32)) hx hb dX12_lists_113 (by decide) ?_
        refine cVIw (q0 := 0) kmX12_332 hC hw (m_X12_make l D cI cC cZ cJ ad n (1 : Int32) (2 : Int32) g k h) rfl rfl ⟨by decide, by decide⟩ rfl rfl rfl hl.1 (Nat.le_of_ble_eq_true rfl) dX12_lists_114 ⟨Nat.zero_le _, Nat.zero_le _⟩ rfl ?_
        intro r_4 u H locs h hw
        obtain ⟨g_2, k_3⟩ := u
        dsimp only at h hw
        refine lv_istore (lv' := [(8, .int r_4), (0, .ref (ad 0)), (2, .int x2), (6, .int x6), (7, .int x7)]) hx hb dX12_lists_117 hl (by decide) rfl (fun ls hl => ?_)
        refine lv_aload_n hx hb dX12_lists_119 rfl (lv_at hl 1 rfl) ?_
        refine gt (v := .ref (ad 12)) kfX12_107 0 hC hw rfl rfl dX12_lists_120 ?_
        refine lv_bipush (v := (8 : Int32)) hx hb dX12_lists_123 (by decide) ?_
        refine lv_iload hx hb dX12_lists_125 (lv_at hl 0 rfl) ?_
        refine lv_imul hx hb dX12_lists_127 ?_
        refine lv_aload_n hx hb dX12_lists_128 rfl (lv_at hl 1 rfl) ?_
        refine gt (v := .ref (ad 23)) kfX12_140 0 hC hw rfl rfl dX12_lists_129 ?_
        refine lv_iload_n hx hb dX12_lists_132 rfl (lv_at hl 2 rfl) ?_
        refine lv_iload hx hb dX12_lists_133 (lv_at hl 4 rfl) ?_
        refine lv_iadd hx hb dX12_lists_135 ?_
        refine ldI 23 0 hC hw rfl rfl h.1 dX12_lists_136 ?_
        have h := h.2
        refine swM_12 h.1 hC hw dX12_lists_137 (fun H locs g_5 eg_5 hw => ?_)
        have h := h.2 g_5 eg_5
        refine lv_aload_n hx hb dX12_lists_138 rfl (lv_at hl 1 rfl) ?_
        refine gt (v := .ref (ad 12)) kfX12_107 0 hC hw rfl rfl dX12_lists_139 ?_
        refine lv_bipush (v := (8 : Int32)) hx hb dX12_lists_142 (by decide) ?_
        refine lv_iload hx hb dX12_lists_144 (lv_at hl 0 rfl) ?_
        refine lv_imul hx hb dX12_lists_146 ?_
        refine lv_iconst (v := (1 : Int32)) hx hb dX12_lists_147 (by decide) ?_
        refine lv_iadd hx hb dX12_lists_148 ?_
        refine lv_iload hx hb dX12_lists_149 (lv_at hl 3 rfl) ?_
        refine swM_12 h.1 hC hw dX12_lists_151 (fun H locs g_6 eg_6 hw => ?_)
        have h := h.2 g_6 eg_6
        refine lv_iconst (v := (4 : Int32)) hx hb dX12_lists_152 (by decide) ?_
        refine lv_sipush (v := (2000 : Int32)) hx hb dX12_lists_153 (by decide) ?_
        refine lv_iload hx hb dX12_lists_156 (lv_at hl 0 rfl) ?_
        refine lv_iadd hx hb dX12_lists_158 ?_
        refine cSI ksX12_171 hC (m_X12_code l (4 : Int32) ((2000 : Int32) + r_4) h) rfl rfl ⟨by decide, by decide⟩ rfl hl.1 (Nat.le_of_ble_eq_true rfl) dX12_lists_159 ⟨Nat.zero_le _, Nat.zero_le _⟩ rfl ?_
        intro r_7 h
        refine lv_istore (lv' := [(6, .int r_7), (8, .int r_4), (0, .ref (ad 0)), (2, .int x2), (7, .int x7)]) hx hb dX12_lists_162 hl (by decide) rfl (fun ls hl => ?_)
        obtain ⟨x_8, ex_8⟩ : ∃ y : Int32, y = x7 + (-1 : Int32) := ⟨_, rfl⟩
        have h := h x_8 ex_8
        refine lv_iinc (v := x_8) (lv' := [(7, .int x_8), (6, .int r_7), (8, .int r_4), (0, .ref (ad 0)), (2, .int x2)]) hx hb dX12_lists_164 hl (k := 4) rfl (by rw [ex_8]; rfl) (by decide) rfl (fun ls hl => ?_)
        refine lv_goto (tgt := 106) hx hb dX12_lists_167 (by decide) ?_
        exact ih x2 r_7 x_8 g_6 k_3 _ _ _ h hw (lv_sub hl [3, 4, 1, 0] rfl)
  have w_63 : ∀ (n : Nat) (x1 : Int32) (x2 : Int32) (y0 : Int32) (g : St) (k : StL) (H : Heap) (locs : List Loc) (ls : Array Slot), V_X12_lists_63 post n x1 x2 y0 g k → Wd D (ty4 cI cC cZ cJ) A s (wM ad cI cC cZ cJ g k) H locs → lv_has ls 9 [(0, .ref (ad 0)), (1, .int x1), (2, .int x2)] → W p l e RM_X12_lists s m args below meth c H locs 0 0 (QI below D (ty4 cI cC cZ cJ) A args s (fun u : St × StL => (wM ad cI cC cZ cJ u.1 u.2)) (fun (r : Int32) (u : St × StL) => post r u.1 u.2)) (F0 m 63 ls [.int y0]) := by
    intro n x1 x2 y0 g k H locs ls h hw hl
    unfold V_X12_lists_63 at h
    refine lv_istore (lv' := [(5, .int y0), (0, .ref (ad 0)), (1, .int x1), (2, .int x2)]) hx hb dX12_lists_63 hl (by decide) rfl (fun ls hl => ?_)
    refine lv_aload_n hx hb dX12_lists_65 rfl (lv_at hl 1 rfl) ?_
    refine lv_iconst (v := (2 : Int32)) hx hb dX12_lists_66 (by decide) ?_
    refine lv_iload hx hb dX12_lists_67 (lv_at hl 0 rfl) ?_
    refine lv_imul hx hb dX12_lists_69 ?_
    refine cVIw (q0 := 0) kmX12_329 hC hw (m_X12_room l D cI cC cZ cJ ad n ((2 : Int32) * y0) g k h) rfl rfl ⟨by decide, by decide⟩ rfl rfl rfl hl.1 (Nat.le_of_ble_eq_true rfl) dX12_lists_70 ⟨Nat.zero_le _, Nat.zero_le _⟩ rfl ?_
    intro r_11 u H locs h hw
    obtain ⟨g_9, k_10⟩ := u
    dsimp only at h hw
    refine lv_if_ne (tgt := 79) hx hb dX12_lists_73 (by decide) (fun c_12 => ?_) (fun c_12 => ?_)
    · have h := h.1 c_12
      refine lv_iload_n hx hb dX12_lists_79 rfl (lv_at hl 2 rfl) ?_
      refine lv_bipush (v := (10 : Int32)) hx hb dX12_lists_80 (by decide) ?_
      refine lv_icmp_ne (tgt := 96) hx hb dX12_lists_82 (by decide) (fun c_13 => ?_) (fun c_13 => ?_)
      · have h := h.1 c_13
        refine lv_ldc (v := (1048576 : Int32)) hx hb hC.2.2.2.1 (hC.2.2.2.2 _ (List.mem_cons_of_mem _ kcX12_184)) dX12_lists_96 ?_
        refine lv_topi (fun x_14 ex_14 => ?_)
        have h := h x_14 ex_14
        refine lv_istore (lv' := [(6, .int x_14), (5, .int y0), (0, .ref (ad 0)), (1, .int x1), (2, .int x2)]) hx hb dX12_lists_98 hl (by decide) rfl (fun ls hl => ?_)
        refine lv_iload hx hb dX12_lists_100 (lv_at hl 1 rfl) ?_
        refine lv_iconst (v := (1 : Int32)) hx hb dX12_lists_102 (by decide) ?_
        refine lv_isub hx hb dX12_lists_103 ?_
        refine lv_topi (fun x_15 ex_15 => ?_)
        have h := h x_15 ex_15
        refine lv_istore (lv' := [(7, .int x_15), (6, .int x_14), (5, .int y0), (0, .ref (ad 0)), (1, .int x1), (2, .int x2)]) hx hb dX12_lists_104 hl (by decide) rfl (fun ls hl => ?_)
        exact w_106 n x2 x_14 x_15 g_9 k_10 _ _ _ h hw (lv_sub hl [3, 5, 1, 0] rfl)
      · have h := h.2 c_13
        refine lv_aload_n hx hb dX12_lists_85 rfl (lv_at hl 1 rfl) ?_
        refine gt (v := .ref (ad 23)) kfX12_140 0 hC hw rfl rfl dX12_lists_86 ?_
        refine lv_iload_n hx hb dX12_lists_89 rfl (lv_at hl 3 rfl) ?_
        refine lv_iconst (v := (1 : Int32)) hx hb dX12_lists_90 (by decide) ?_
        refine lv_iadd hx hb dX12_lists_91 ?_
        refine ldI 23 0 hC hw rfl rfl h.1 dX12_lists_92 ?_
        have h := h.2
        refine lv_goto (tgt := 98) hx hb dX12_lists_93 (by decide) ?_
        refine lv_topi (fun x_16 ex_16 => ?_)
        have h := h x_16 ex_16
        refine lv_istore (lv' := [(6, .int x_16), (5, .int y0), (0, .ref (ad 0)), (1, .int x1), (2, .int x2)]) hx hb dX12_lists_98 hl (by decide) rfl (fun ls hl => ?_)
        refine lv_iload hx hb dX12_lists_100 (lv_at hl 1 rfl) ?_
        refine lv_iconst (v := (1 : Int32)) hx hb dX12_lists_102 (by decide) ?_
        refine lv_isub hx hb dX12_lists_103 ?_
        refine lv_topi (fun x_17 ex_17 => ?_)
        have h := h x_17 ex_17
        refine lv_istore (lv' := [(7, .int x_17), (6, .int x_16), (5, .int y0), (0, .ref (ad 0)), (1, .int x1), (2, .int x2)]) hx hb dX12_lists_104 hl (by decide) rfl (fun ls hl => ?_)
        exact w_106 n x2 x_16 x_17 g_9 k_10 _ _ _ h hw (lv_sub hl [3, 5, 1, 0] rfl)
    · have h := h.2 c_12
      refine lv_ldc (v := (1048576 : Int32)) hx hb hC.2.2.2.1 (hC.2.2.2.2 _ (List.mem_cons_of_mem _ kcX12_184)) dX12_lists_76 ?_
      exact rtI (wf := (fun u : St × StL => (wM ad cI cC cZ cJ u.1 u.2))) (g_9, k_10) hC hr hlk hw rfl h dX12_lists_78
  have w_188 : ∀ (n : Nat) (x1 : Int32) (x2 : Int32) (x3 : Int32) (x4 : Int32) (g : St) (k : StL) (H : Heap) (locs : List Loc) (ls : Array Slot), V_X12_lists_188 post n x1 x2 x3 x4 g k → Wd D (ty4 cI cC cZ cJ) A s (wM ad cI cC cZ cJ g k) H locs → lv_has ls 9 [(0, .ref (ad 0)), (1, .int x1), (2, .int x2), (3, .int x3), (4, .int x4)] → W p l e RM_X12_lists s m args below meth c H locs 0 0 (QI below D (ty4 cI cC cZ cJ) A args s (fun u : St × StL => (wM ad cI cC cZ cJ u.1 u.2)) (fun (r : Int32) (u : St × StL) => post r u.1 u.2)) (F0 m 188 ls []) := by
    intro n x1 x2 x3 x4 g k H locs ls h hw hl
    unfold V_X12_lists_188 at h
    refine lv_iload hx hb dX12_lists_188 (lv_at hl 4 rfl) ?_
    refine lv_iconst (v := (4 : Int32)) hx hb dX12_lists_190 (by decide) ?_
    refine lv_icmp_eq (tgt := 200) hx hb dX12_lists_191 (by decide) (fun c_18 => ?_) (fun c_18 => ?_)
    · have h := h.1 c_18
      refine lv_iload_n hx hb dX12_lists_200 rfl (lv_at hl 1 rfl) ?_
      refine lv_bipush (v := (8 : Int32)) hx hb dX12_lists_201 (by decide) ?_
      refine lv_icmp_ne (tgt := 212) hx hb dX12_lists_203 (by decide) (fun c_19 => ?_) (fun c_19 => ?_)
      · have h := h.1 c_19
        refine lv_iload_n hx hb dX12_lists_212 rfl (lv_at hl 1 rfl) ?_
        refine lv_bipush (v := (9 : Int32)) hx hb dX12_lists_213 (by decide) ?_
        refine lv_icmp_ne (tgt := 224) hx hb dX12_lists_215 (by decide) (fun c_20 => ?_) (fun c_20 => ?_)
        · have h := h.1 c_20
          refine lv_iload_n hx hb dX12_lists_224 rfl (lv_at hl 1 rfl) ?_
          refine lv_bipush (v := (11 : Int32)) hx hb dX12_lists_225 (by decide) ?_
          refine lv_icmp_ne (tgt := 246) hx hb dX12_lists_227 (by decide) (fun c_21 => ?_) (fun c_21 => ?_)
          · have h := h.1 c_21
            refine lv_aload_n hx hb dX12_lists_246 rfl (lv_at hl 0 rfl) ?_
            refine lv_iload_n hx hb dX12_lists_247 rfl (lv_at hl 3 rfl) ?_
            refine lv_aload_n hx hb dX12_lists_248 rfl (lv_at hl 0 rfl) ?_
            refine gt (v := .ref (ad 23)) kfX12_140 0 hC hw rfl rfl dX12_lists_249 ?_
            refine lv_iload_n hx hb dX12_lists_252 rfl (lv_at hl 2 rfl) ?_
            refine lv_iconst (v := (1 : Int32)) hx hb dX12_lists_253 (by decide) ?_
            refine lv_iadd hx hb dX12_lists_254 ?_
            refine ldI 23 0 hC hw rfl rfl h.1 dX12_lists_255 ?_
            have h := h.2
            refine cVVw (q0 := 0) kmX12_197 hC hw (m_X12_setCdr l D cI cC cZ cJ ad x3 (g 21 (x2 + (1 : Int32)).toNatClampNeg) g k h) rfl rfl ⟨by decide, by decide⟩ rfl rfl rfl hl.1 (Nat.le_of_ble_eq_true rfl) dX12_lists_256 ⟨Nat.zero_le _, Nat.zero_le _⟩ rfl ?_
            intro u H locs h hw
            obtain ⟨g_22, k_23⟩ := u
            dsimp only at h hw
            refine lv_iload_n hx hb dX12_lists_259 rfl (lv_at hl 3 rfl) ?_
            exact rtI (wf := (fun u : St × StL => (wM ad cI cC cZ cJ u.1 u.2))) (g_22, k_23) hC hr hlk hw rfl h dX12_lists_260
          · have h := h.2 c_21
            refine lv_aload_n hx hb dX12_lists_230 rfl (lv_at hl 0 rfl) ?_
            refine lv_iload_n hx hb dX12_lists_231 rfl (lv_at hl 3 rfl) ?_
            refine lv_aload_n hx hb dX12_lists_232 rfl (lv_at hl 0 rfl) ?_
            refine gt (v := .ref (ad 23)) kfX12_140 0 hC hw rfl rfl dX12_lists_233 ?_
            refine lv_iload_n hx hb dX12_lists_236 rfl (lv_at hl 2 rfl) ?_
            refine lv_iconst (v := (1 : Int32)) hx hb dX12_lists_237 (by decide) ?_
            refine lv_iadd hx hb dX12_lists_238 ?_
            refine ldI 23 0 hC hw rfl rfl h.1 dX12_lists_239 ?_
            have h := h.2
            refine cVVw (q0 := 0) kmX12_382 hC hw (m_X12_setCar l D cI cC cZ cJ ad x3 (g 21 (x2 + (1 : Int32)).toNatClampNeg) g k h) rfl rfl ⟨by decide, by decide⟩ rfl rfl rfl hl.1 (Nat.le_of_ble_eq_true rfl) dX12_lists_240 ⟨Nat.zero_le _, Nat.zero_le _⟩ rfl ?_
            intro u H locs h hw
            obtain ⟨g_25, k_26⟩ := u
            dsimp only at h hw
            refine lv_goto (tgt := 259) hx hb dX12_lists_243 (by decide) ?_
            refine lv_iload_n hx hb dX12_lists_259 rfl (lv_at hl 3 rfl) ?_
            exact rtI (wf := (fun u : St × StL => (wM ad cI cC cZ cJ u.1 u.2))) (g_25, k_26) hC hr hlk hw rfl h dX12_lists_260
        · have h := h.2 c_20
          refine lv_aload_n hx hb dX12_lists_218 rfl (lv_at hl 0 rfl) ?_
          refine lv_iload_n hx hb dX12_lists_219 rfl (lv_at hl 3 rfl) ?_
          refine cVIw (q0 := 0) kmX12_251 hC hw (m_X12_cdr l D cI cC cZ cJ ad x3 g k h) rfl rfl ⟨by decide, by decide⟩ rfl rfl rfl hl.1 (Nat.le_of_ble_eq_true rfl) dX12_lists_220 ⟨Nat.zero_le _, Nat.zero_le _⟩ rfl ?_
          intro r_30 u H locs h hw
          obtain ⟨g_28, k_29⟩ := u
          dsimp only at h hw
          exact rtI (wf := (fun u : St × StL => (wM ad cI cC cZ cJ u.1 u.2))) (g_28, k_29) hC hr hlk hw rfl h dX12_lists_223
      · have h := h.2 c_19
        refine lv_aload_n hx hb dX12_lists_206 rfl (lv_at hl 0 rfl) ?_
        refine lv_iload_n hx hb dX12_lists_207 rfl (lv_at hl 3 rfl) ?_
        refine cVIw (q0 := 0) kmX12_260 hC hw (m_X12_car l D cI cC cZ cJ ad x3 g k h) rfl rfl ⟨by decide, by decide⟩ rfl rfl rfl hl.1 (Nat.le_of_ble_eq_true rfl) dX12_lists_208 ⟨Nat.zero_le _, Nat.zero_le _⟩ rfl ?_
        intro r_33 u H locs h hw
        obtain ⟨g_31, k_32⟩ := u
        dsimp only at h hw
        exact rtI (wf := (fun u : St × StL => (wM ad cI cC cZ cJ u.1 u.2))) (g_31, k_32) hC hr hlk hw rfl h dX12_lists_211
    · have h := h.2 c_18
      refine lv_aload_n hx hb dX12_lists_194 rfl (lv_at hl 0 rfl) ?_
      refine lv_iconst (v := (4 : Int32)) hx hb dX12_lists_195 (by decide) ?_
      refine cVIw (q0 := 0) kmX12_379 hC hw (m_X12_fail l D cI cC cZ cJ ad (4 : Int32) g k h) rfl rfl ⟨by decide, by decide⟩ rfl rfl rfl hl.1 (Nat.le_of_ble_eq_true rfl) dX12_lists_196 ⟨Nat.zero_le _, Nat.zero_le _⟩ rfl ?_
      intro r_36 u H locs h hw
      obtain ⟨g_34, k_35⟩ := u
      dsimp only at h hw
      exact rtI (wf := (fun u : St × StL => (wM ad cI cC cZ cJ u.1 u.2))) (g_34, k_35) hC hr hlk hw rfl h dX12_lists_199
  unfold V_X12_lists at h
  refine lv_aload_n hx hb dX12_lists_0 rfl (lv_at hl 0 rfl) ?_
  refine gt (v := .ref (ad 23)) kfX12_140 0 hC hw rfl rfl dX12_lists_1 ?_
  refine lv_iload_n hx hb dX12_lists_4 rfl (lv_at hl 2 rfl) ?_
  refine ldI 23 0 hC hw rfl rfl h.1 dX12_lists_5 ?_
  have h := h.2
  refine lv_topi (fun x_37 ex_37 => ?_)
  have h := h x_37 ex_37
  refine lv_istore_n (lv' := [(3, .int x_37), (0, .ref (ad 0)), (1, .int x1), (2, .int x2)]) hx hb dX12_lists_6 rfl hl (by decide) rfl (fun ls hl => ?_)
  refine lv_iload_n hx hb dX12_lists_7 rfl (lv_at hl 0 rfl) ?_
  refine cSI ksX12_254 hC (m_X12_sortOf l x_37 h) rfl rfl ⟨by decide, by decide⟩ rfl hl.1 (Nat.le_of_ble_eq_true rfl) dX12_lists_8 ⟨Nat.zero_le _, Nat.zero_le _⟩ rfl ?_
  intro r_38 h
  refine lv_istore (lv' := [(4, .int r_38), (3, .int x_37), (0, .ref (ad 0)), (1, .int x1), (2, .int x2)]) hx hb dX12_lists_11 hl (by decide) rfl (fun ls hl => ?_)
  refine lv_iload_n hx hb dX12_lists_13 rfl (lv_at hl 3 rfl) ?_
  refine lv_bipush (v := (14 : Int32)) hx hb dX12_lists_14 (by decide) ?_
  refine lv_icmp_ne (tgt := 35) hx hb dX12_lists_16 (by decide) (fun c_39 => ?_) (fun c_39 => ?_)
  · have h := h.1 c_39
    refine lv_iload_n hx hb dX12_lists_35 rfl (lv_at hl 3 rfl) ?_
    refine lv_bipush (v := (10 : Int32)) hx hb dX12_lists_36 (by decide) ?_
    refine lv_icmp_eq (tgt := 47) hx hb dX12_lists_38 (by decide) (fun c_40 => ?_) (fun c_40 => ?_)
    · have h := h.1 c_40
      refine lv_iload_n hx hb dX12_lists_47 rfl (lv_at hl 3 rfl) ?_
      refine lv_bipush (v := (10 : Int32)) hx hb dX12_lists_48 (by decide) ?_
      refine lv_icmp_ne (tgt := 57) hx hb dX12_lists_50 (by decide) (fun c_41 => ?_) (fun c_41 => ?_)
      · have h := h.1 c_41
        refine lv_aload_n hx hb dX12_lists_57 rfl (lv_at hl 2 rfl) ?_
        refine gt (v := .int (g 0 13)) kfX12_275 0 hC hw rfl rfl dX12_lists_58 ?_
        refine lv_iload_n hx hb dX12_lists_61 rfl (lv_at hl 4 rfl) ?_
        refine lv_isub hx hb dX12_lists_62 ?_
        exact w_63 n x1 x2 ((g 0 13) - x2) g k _ _ _ h hw (lv_sub hl [2, 3, 4] rfl)
      · have h := h.2 c_41
        refine lv_iconst (v := (1 : Int32)) hx hb dX12_lists_53 (by decide) ?_
        refine lv_goto (tgt := 63) hx hb dX12_lists_54 (by decide) ?_
        exact w_63 n x1 x2 (1 : Int32) g k _ _ _ h hw (lv_sub hl [2, 3, 4] rfl)
    · have h := h.2 c_40
      refine lv_iload_n hx hb dX12_lists_41 rfl (lv_at hl 3 rfl) ?_
      refine lv_bipush (v := (13 : Int32)) hx hb dX12_lists_42 (by decide) ?_
      refine lv_icmp_ne (tgt := 173) hx hb dX12_lists_44 (by decide) (fun c_42 => ?_) (fun c_42 => ?_)
      · have h := h.1 c_42
        refine lv_iload_n hx hb dX12_lists_173 rfl (lv_at hl 3 rfl) ?_
        refine lv_bipush (v := (10 : Int32)) hx hb dX12_lists_174 (by decide) ?_
        refine lv_icmp_ge (tgt := 188) hx hb dX12_lists_176 (by decide) (fun c_43 => ?_) (fun c_43 => ?_)
        · have h := h.1 c_43
          exact w_188 n x1 x2 x_37 r_38 g k _ _ _ h hw (lv_sub hl [2, 3, 4, 1, 0] rfl)
        · have h := h.2 c_43
          refine lv_iload_n hx hb dX12_lists_179 rfl (lv_at hl 1 rfl) ?_
          refine lv_ldc (v := (1048576 : Int32)) hx hb hC.2.2.2.1 (hC.2.2.2.2 _ (List.mem_cons_of_mem _ kcX12_184)) dX12_lists_180 ?_
          refine lv_icmp_ne (tgt := 188) hx hb dX12_lists_182 (by decide) (fun c_44 => ?_) (fun c_44 => ?_)
          · have h := h.1 c_44
            exact w_188 n x1 x2 x_37 r_38 g k _ _ _ h hw (lv_sub hl [2, 3, 4, 1, 0] rfl)
          · have h := h.2 c_44
            refine lv_ldc (v := (1048576 : Int32)) hx hb hC.2.2.2.1 (hC.2.2.2.2 _ (List.mem_cons_of_mem _ kcX12_184)) dX12_lists_185 ?_
            exact rtI (wf := (fun u : St × StL => (wM ad cI cC cZ cJ u.1 u.2))) (g, k) hC hr hlk hw rfl h dX12_lists_187
      · have h := h.2 c_42
        refine lv_iload_n hx hb dX12_lists_47 rfl (lv_at hl 3 rfl) ?_
        refine lv_bipush (v := (10 : Int32)) hx hb dX12_lists_48 (by decide) ?_
        refine lv_icmp_ne (tgt := 57) hx hb dX12_lists_50 (by decide) (fun c_45 => ?_) (fun c_45 => ?_)
        · have h := h.1 c_45
          refine lv_aload_n hx hb dX12_lists_57 rfl (lv_at hl 2 rfl) ?_
          refine gt (v := .int (g 0 13)) kfX12_275 0 hC hw rfl rfl dX12_lists_58 ?_
          refine lv_iload_n hx hb dX12_lists_61 rfl (lv_at hl 4 rfl) ?_
          refine lv_isub hx hb dX12_lists_62 ?_
          exact w_63 n x1 x2 ((g 0 13) - x2) g k _ _ _ h hw (lv_sub hl [2, 3, 4] rfl)
        · have h := h.2 c_45
          refine lv_iconst (v := (1 : Int32)) hx hb dX12_lists_53 (by decide) ?_
          refine lv_goto (tgt := 63) hx hb dX12_lists_54 (by decide) ?_
          exact w_63 n x1 x2 (1 : Int32) g k _ _ _ h hw (lv_sub hl [2, 3, 4] rfl)
  · have h := h.2 c_39
    refine lv_aload_n hx hb dX12_lists_19 rfl (lv_at hl 2 rfl) ?_
    refine lv_iload hx hb dX12_lists_20 (lv_at hl 0 rfl) ?_
    refine lv_iconst (v := (4 : Int32)) hx hb dX12_lists_22 (by decide) ?_
    refine lv_icmp_eq (tgt := 30) hx hb dX12_lists_23 (by decide) (fun c_46 => ?_) (fun c_46 => ?_)
    · have h := h.1 c_46
      refine lv_iconst (v := (0 : Int32)) hx hb dX12_lists_30 (by decide) ?_
      refine cVIw (q0 := 0) kmX12_375 hC hw (m_X12_truth l D cI cC cZ cJ ad (0 : Int32) g k h) rfl rfl ⟨by decide, by decide⟩ rfl rfl rfl hl.1 (Nat.le_of_ble_eq_true rfl) dX12_lists_31 ⟨Nat.zero_le _, Nat.zero_le _⟩ rfl ?_
      intro r_49 u H locs h hw
      obtain ⟨g_47, k_48⟩ := u
      dsimp only at h hw
      exact rtI (wf := (fun u : St × StL => (wM ad cI cC cZ cJ u.1 u.2))) (g_47, k_48) hC hr hlk hw rfl h dX12_lists_34
    · have h := h.2 c_46
      refine lv_iconst (v := (1 : Int32)) hx hb dX12_lists_26 (by decide) ?_
      refine lv_goto (tgt := 31) hx hb dX12_lists_27 (by decide) ?_
      refine cVIw (q0 := 0) kmX12_375 hC hw (m_X12_truth l D cI cC cZ cJ ad (1 : Int32) g k h) rfl rfl ⟨by decide, by decide⟩ rfl rfl rfl hl.1 (Nat.le_of_ble_eq_true rfl) dX12_lists_31 ⟨Nat.zero_le _, Nat.zero_le _⟩ rfl ?_
      intro r_52 u H locs h hw
      obtain ⟨g_50, k_51⟩ := u
      dsimp only at h hw
      exact rtI (wf := (fun u : St × StL => (wM ad cI cC cZ cJ u.1 u.2))) (g_50, k_51) hC hr hlk hw rfl h dX12_lists_34
def V_X12_ranged (x1 : Int32) (g : St) (k : StL) (post : Int32 → St → StL → Prop) : Prop := ((x1 < (-32768 : Int32) → V_X12_fail (5 : Int32) g k (fun r_4 g_2 k_3 => post r_4 g_2 k_3)) ∧ (¬ x1 < (-32768 : Int32) → ((x1 ≤ (32767 : Int32) → V_X12_numeral x1 (fun r_6 => post r_6 g k)) ∧ (¬ x1 ≤ (32767 : Int32) → V_X12_fail (5 : Int32) g k (fun r_9 g_7 k_8 => post r_9 g_7 k_8)))))
abbrev RM_X12_ranged : Room := { frames := 2, cells := 0, slots := 0, locals := 41 }
set_option maxHeartbeats 4000000 in
set_option maxRecDepth 100000 in
theorem m_X12_ranged (l : Launch) (D : va_G) (cI cC cZ cJ : ClassId) (ad : Nat → Nat) (x1 : Int32) (g : St) (k : StL) {post : Int32 → St → StL → Prop} (h : V_X12_ranged x1 g k post) : MetI l yX12_ranged cX12_ranged 2 .int RM_X12_ranged D (ty4 cI cC cZ cJ) (wM ad cI cC cZ cJ g k) [.ref (ad 0), .int x1] (fun u : St × StL => (wM ad cI cC cZ cJ u.1 u.2)) (fun (r : Int32) (u : St × StL) => post r u.1 u.2) := by
  refine mkI (by decide) (Nat.le_of_ble_eq_true rfl) ?_
  intro p e s m args below meth c A ls hC hr hlk hw hl
  have hx := hC.1
  have hb := hC.2.1
  have hl : lv_has ls 2 [(0, .ref (ad 0)), (1, .int x1)] := hl
  unfold V_X12_ranged at h
  refine lv_iload_n hx hb dX12_ranged_0 rfl (lv_at hl 1 rfl) ?_
  refine lv_sipush (v := (-32768 : Int32)) hx hb dX12_ranged_1 (by decide) ?_
  refine lv_icmp_lt (tgt := 14) hx hb dX12_ranged_4 (by decide) (fun c_1 => ?_) (fun c_1 => ?_)
  · have h := h.1 c_1
    refine lv_aload_n hx hb dX12_ranged_14 rfl (lv_at hl 0 rfl) ?_
    refine lv_iconst (v := (5 : Int32)) hx hb dX12_ranged_15 (by decide) ?_
    refine cVIw (q0 := 0) kmX12_379 hC hw (m_X12_fail l D cI cC cZ cJ ad (5 : Int32) g k h) rfl rfl ⟨by decide, by decide⟩ rfl rfl rfl hl.1 (Nat.le_of_ble_eq_true rfl) dX12_ranged_16 ⟨Nat.zero_le _, Nat.zero_le _⟩ rfl ?_
    intro r_4 u H locs h hw
    obtain ⟨g_2, k_3⟩ := u
    dsimp only at h hw
    refine lv_goto (tgt := 26) hx hb dX12_ranged_19 (by decide) ?_
    exact rtI (wf := (fun u : St × StL => (wM ad cI cC cZ cJ u.1 u.2))) (g_2, k_3) hC hr hlk hw rfl h dX12_ranged_26
  · have h := h.2 c_1
    refine lv_iload_n hx hb dX12_ranged_7 rfl (lv_at hl 1 rfl) ?_
    refine lv_sipush (v := (32767 : Int32)) hx hb dX12_ranged_8 (by decide) ?_
    refine lv_icmp_le (tgt := 22) hx hb dX12_ranged_11 (by decide) (fun c_5 => ?_) (fun c_5 => ?_)
    · have h := h.1 c_5
      refine lv_iload_n hx hb dX12_ranged_22 rfl (lv_at hl 1 rfl) ?_
      refine cSI ksX12_214 hC (m_X12_numeral l x1 h) rfl rfl ⟨by decide, by decide⟩ rfl hl.1 (Nat.le_of_ble_eq_true rfl) dX12_ranged_23 ⟨Nat.zero_le _, Nat.zero_le _⟩ rfl ?_
      intro r_6 h
      exact rtI (wf := (fun u : St × StL => (wM ad cI cC cZ cJ u.1 u.2))) (g, k) hC hr hlk hw rfl h dX12_ranged_26
    · have h := h.2 c_5
      refine lv_aload_n hx hb dX12_ranged_14 rfl (lv_at hl 0 rfl) ?_
      refine lv_iconst (v := (5 : Int32)) hx hb dX12_ranged_15 (by decide) ?_
      refine cVIw (q0 := 0) kmX12_379 hC hw (m_X12_fail l D cI cC cZ cJ ad (5 : Int32) g k h) rfl rfl ⟨by decide, by decide⟩ rfl rfl rfl hl.1 (Nat.le_of_ble_eq_true rfl) dX12_ranged_16 ⟨Nat.zero_le _, Nat.zero_le _⟩ rfl ?_
      intro r_9 u H locs h hw
      obtain ⟨g_7, k_8⟩ := u
      dsimp only at h hw
      refine lv_goto (tgt := 26) hx hb dX12_ranged_19 (by decide) ?_
      exact rtI (wf := (fun u : St × StL => (wM ad cI cC cZ cJ u.1 u.2))) (g_7, k_8) hC hr hlk hw rfl h dX12_ranged_26
def V_X12_numbers (x1 : Int32) (x2 : Int32) (x3 : Int32) (g : St) (k : StL) (post : Int32 → St → StL → Prop) : Prop := ((¬ x1 = (15 : Int32) → V_X12_sortOf x2 (fun r_2 => ((¬ r_2 = (2 : Int32) → V_X12_fail (4 : Int32) g k (fun r_6 g_4 k_5 => post r_6 g_4 k_5)) ∧ (r_2 = (2 : Int32) → V_X12_sortOf x3 (fun r_7 => ((r_7 = (2 : Int32) → V_X12_amount x2 (fun r_9 => V_X12_amount x3 (fun r_10 => ((x1 = (16 : Int32) → V_X12_ranged (r_9 + r_10) g k (fun r_14 g_12 k_13 => post r_14 g_12 k_13)) ∧ (x1 = (17 : Int32) → V_X12_ranged (r_9 - r_10) g k (fun r_17 g_15 k_16 => post r_17 g_15 k_16)) ∧ (x1 = (18 : Int32) → V_X12_ranged (r_9 * r_10) g k (fun r_20 g_18 k_19 => post r_20 g_18 k_19)) ∧ (x1 = (19 : Int32) → ((¬ r_10 = 0 → (¬ r_10 = 0 ∧ V_X12_ranged (r_9 / r_10) g k (fun r_24 g_22 k_23 => post r_24 g_22 k_23))) ∧ (r_10 = 0 → V_X12_fail (5 : Int32) g k (fun r_27 g_25 k_26 => post r_27 g_25 k_26)))) ∧ (x1 = (20 : Int32) → ((r_10 ≤ r_9 → V_X12_truth (0 : Int32) g k (fun r_31 g_29 k_30 => post r_31 g_29 k_30)) ∧ (¬ r_10 ≤ r_9 → V_X12_truth (1 : Int32) g k (fun r_34 g_32 k_33 => post r_34 g_32 k_33)))) ∧ (x1 = (21 : Int32) → V_X12_numeral (r_9 &&& r_10) (fun r_35 => post r_35 g k)) ∧ (x1 = (22 : Int32) → V_X12_numeral (r_9 ||| r_10) (fun r_36 => post r_36 g k)) ∧ (x1 = (23 : Int32) → V_X12_numeral (r_9 ^^^ r_10) (fun r_37 => post r_37 g k)) ∧ (¬ x1 = (16 : Int32) → ¬ x1 = (17 : Int32) → ¬ x1 = (18 : Int32) → ¬ x1 = (19 : Int32) → ¬ x1 = (20 : Int32) → ¬ x1 = (21 : Int32) → ¬ x1 = (22 : Int32) → ¬ x1 = (23 : Int32) → ((r_10 < (-15 : Int32) → V_X12_fail (4 : Int32) g k (fun r_41 g_39 k_40 => post r_41 g_39 k_40)) ∧ (¬ r_10 < (-15 : Int32) → ((r_10 ≤ (15 : Int32) → ∀ x_43 : Int32, x_43 = (r_9 &&& (65535 : Int32)) → ((0 ≤ r_10 → V_X12_numeral (((x_43 <<< (r_10 &&& 31))).toInt16.toInt32) (fun r_45 => post r_45 g k)) ∧ (¬ 0 ≤ r_10 → V_X12_numeral (((x_43 >>> ((-r_10) &&& 31))).toInt16.toInt32) (fun r_46 => post r_46 g k)))) ∧ (¬ r_10 ≤ (15 : Int32) → V_X12_fail (4 : Int32) g k (fun r_49 g_47 k_48 => post r_49 g_47 k_48)))))))))) ∧ (¬ r_7 = (2 : Int32) → V_X12_fail (4 : Int32) g k (fun r_52 g_50 k_51 => post r_52 g_50 k_51)))))))) ∧ (x1 = (15 : Int32) → ((¬ x2 = x3 → V_X12_truth (0 : Int32) g k (fun r_56 g_54 k_55 => post r_56 g_54 k_55)) ∧ (x2 = x3 → V_X12_truth (1 : Int32) g k (fun r_59 g_57 k_58 => post r_59 g_57 k_58)))))
abbrev RM_X12_numbers : Room := { frames := 3, cells := 0, slots := 0, locals := 62 }
set_option maxHeartbeats 4000000 in
set_option maxRecDepth 100000 in
theorem m_X12_numbers (l : Launch) (D : va_G) (cI cC cZ cJ : ClassId) (ad : Nat → Nat) (x1 : Int32) (x2 : Int32) (x3 : Int32) (g : St) (k : StL) {post : Int32 → St → StL → Prop} (h : V_X12_numbers x1 x2 x3 g k post) : MetI l yX12_numbers cX12_numbers 7 .int RM_X12_numbers D (ty4 cI cC cZ cJ) (wM ad cI cC cZ cJ g k) [.ref (ad 0), .int x1, .int x2, .int x3] (fun u : St × StL => (wM ad cI cC cZ cJ u.1 u.2)) (fun (r : Int32) (u : St × StL) => post r u.1 u.2) := by
  refine mkI (by decide) (Nat.le_of_ble_eq_true rfl) ?_
  intro p e s m args below meth c A ls hC hr hlk hw hl
  have hx := hC.1
  have hb := hC.2.1
  have hl : lv_has ls 7 [(0, .ref (ad 0)), (1, .int x1), (2, .int x2), (3, .int x3)] := hl
  unfold V_X12_numbers at h
  refine lv_iload_n hx hb dX12_numbers_0 rfl (lv_at hl 1 rfl) ?_
  refine lv_bipush (v := (15 : Int32)) hx hb dX12_numbers_1 (by decide) ?_
  refine lv_icmp_ne (tgt := 21) hx hb dX12_numbers_3 (by decide) (fun c_1 => ?_) (fun c_1 => ?_)
  · have h := h.1 c_1
    refine lv_iload_n hx hb dX12_numbers_21 rfl (lv_at hl 2 rfl) ?_
    refine cSI ksX12_254 hC (m_X12_sortOf l x2 h) rfl rfl ⟨by decide, by decide⟩ rfl hl.1 (Nat.le_of_ble_eq_true rfl) dX12_numbers_22 ⟨Nat.zero_le _, Nat.zero_le _⟩ rfl ?_
    intro r_2 h
    refine lv_iconst (v := (2 : Int32)) hx hb dX12_numbers_25 (by decide) ?_
    refine lv_icmp_ne (tgt := 37) hx hb dX12_numbers_26 (by decide) (fun c_3 => ?_) (fun c_3 => ?_)
    · have h := h.1 c_3
      refine lv_aload_n hx hb dX12_numbers_37 rfl (lv_at hl 0 rfl) ?_
      refine lv_iconst (v := (4 : Int32)) hx hb dX12_numbers_38 (by decide) ?_
      refine cVIw (q0 := 0) kmX12_379 hC hw (m_X12_fail l D cI cC cZ cJ ad (4 : Int32) g k h) rfl rfl ⟨by decide, by decide⟩ rfl rfl rfl hl.1 (Nat.le_of_ble_eq_true rfl) dX12_numbers_39 ⟨Nat.zero_le _, Nat.zero_le _⟩ rfl ?_
      intro r_6 u H locs h hw
      obtain ⟨g_4, k_5⟩ := u
      dsimp only at h hw
      exact rtI (wf := (fun u : St × StL => (wM ad cI cC cZ cJ u.1 u.2))) (g_4, k_5) hC hr hlk hw rfl h dX12_numbers_42
    · have h := h.2 c_3
      refine lv_iload_n hx hb dX12_numbers_29 rfl (lv_at hl 3 rfl) ?_
      refine cSI ksX12_254 hC (m_X12_sortOf l x3 h) rfl rfl ⟨by decide, by decide⟩ rfl hl.1 (Nat.le_of_ble_eq_true rfl) dX12_numbers_30 ⟨Nat.zero_le _, Nat.zero_le _⟩ rfl ?_
      intro r_7 h
      refine lv_iconst (v := (2 : Int32)) hx hb dX12_numbers_33 (by decide) ?_
      refine lv_icmp_eq (tgt := 43) hx hb dX12_numbers_34 (by decide) (fun c_8 => ?_) (fun c_8 => ?_)
      · have h := h.1 c_8
        refine lv_iload_n hx hb dX12_numbers_43 rfl (lv_at hl 2 rfl) ?_
        refine cSI ksX12_385 hC (m_X12_amount l x2 h) rfl rfl ⟨by decide, by decide⟩ rfl hl.1 (Nat.le_of_ble_eq_true rfl) dX12_numbers_44 ⟨Nat.zero_le _, Nat.zero_le _⟩ rfl ?_
        intro r_9 h
        refine lv_istore (lv' := [(4, .int r_9), (0, .ref (ad 0)), (1, .int x1), (2, .int x2), (3, .int x3)]) hx hb dX12_numbers_47 hl (by decide) rfl (fun ls hl => ?_)
        refine lv_iload_n hx hb dX12_numbers_49 rfl (lv_at hl 4 rfl) ?_
        refine cSI ksX12_385 hC (m_X12_amount l x3 h) rfl rfl ⟨by decide, by decide⟩ rfl hl.1 (Nat.le_of_ble_eq_true rfl) dX12_numbers_50 ⟨Nat.zero_le _, Nat.zero_le _⟩ rfl ?_
        intro r_10 h
        refine lv_istore (lv' := [(5, .int r_10), (4, .int r_9), (0, .ref (ad 0)), (1, .int x1), (2, .int x2), (3, .int x3)]) hx hb dX12_numbers_53 hl (by decide) rfl (fun ls hl => ?_)
        refine lv_iload_n hx hb dX12_numbers_55 rfl (lv_at hl 3 rfl) ?_
        by_cases c_11_16 : x1 = (16 : Int32)
        · refine lv_tableIn (off := 48) (tgt := 104) hx hb dX12_numbers_56 (by rw [c_11_16]; decide) (by rw [c_11_16]; decide) (by rw [c_11_16]; decide) (by decide) ?_
          have h := h.1 c_11_16
          refine lv_aload_n hx hb dX12_numbers_104 rfl (lv_at hl 2 rfl) ?_
          refine lv_iload hx hb dX12_numbers_105 (lv_at hl 1 rfl) ?_
          refine lv_iload hx hb dX12_numbers_107 (lv_at hl 0 rfl) ?_
          refine lv_iadd hx hb dX12_numbers_109 ?_
          refine cVIw (q0 := 0) kmX12_387 hC hw (m_X12_ranged l D cI cC cZ cJ ad (r_9 + r_10) g k h) rfl rfl ⟨by decide, by decide⟩ rfl rfl rfl hl.1 (Nat.le_of_ble_eq_true rfl) dX12_numbers_110 ⟨Nat.zero_le _, Nat.zero_le _⟩ rfl ?_
          intro r_14 u H locs h hw
          obtain ⟨g_12, k_13⟩ := u
          dsimp only at h hw
          exact rtI (wf := (fun u : St × StL => (wM ad cI cC cZ cJ u.1 u.2))) (g_12, k_13) hC hr hlk hw rfl h dX12_numbers_113
        have h := h.2
        by_cases c_11_17 : x1 = (17 : Int32)
        · refine lv_tableIn (off := 58) (tgt := 114) hx hb dX12_numbers_56 (by rw [c_11_17]; decide) (by rw [c_11_17]; decide) (by rw [c_11_17]; decide) (by decide) ?_
          have h := h.1 c_11_17
          refine lv_aload_n hx hb dX12_numbers_114 rfl (lv_at hl 2 rfl) ?_
          refine lv_iload hx hb dX12_numbers_115 (lv_at hl 1 rfl) ?_
          refine lv_iload hx hb dX12_numbers_117 (lv_at hl 0 rfl) ?_
          refine lv_isub hx hb dX12_numbers_119 ?_
          refine cVIw (q0 := 0) kmX12_387 hC hw (m_X12_ranged l D cI cC cZ cJ ad (r_9 - r_10) g k h) rfl rfl ⟨by decide, by decide⟩ rfl rfl rfl hl.1 (Nat.le_of_ble_eq_true rfl) dX12_numbers_120 ⟨Nat.zero_le _, Nat.zero_le _⟩ rfl ?_
          intro r_17 u H locs h hw
          obtain ⟨g_15, k_16⟩ := u
          dsimp only at h hw
          exact rtI (wf := (fun u : St × StL => (wM ad cI cC cZ cJ u.1 u.2))) (g_15, k_16) hC hr hlk hw rfl h dX12_numbers_123
        have h := h.2
        by_cases c_11_18 : x1 = (18 : Int32)
        · refine lv_tableIn (off := 68) (tgt := 124) hx hb dX12_numbers_56 (by rw [c_11_18]; decide) (by rw [c_11_18]; decide) (by rw [c_11_18]; decide) (by decide) ?_
          have h := h.1 c_11_18
          refine lv_aload_n hx hb dX12_numbers_124 rfl (lv_at hl 2 rfl) ?_
          refine lv_iload hx hb dX12_numbers_125 (lv_at hl 1 rfl) ?_
          refine lv_iload hx hb dX12_numbers_127 (lv_at hl 0 rfl) ?_
          refine lv_imul hx hb dX12_numbers_129 ?_
          refine cVIw (q0 := 0) kmX12_387 hC hw (m_X12_ranged l D cI cC cZ cJ ad (r_9 * r_10) g k h) rfl rfl ⟨by decide, by decide⟩ rfl rfl rfl hl.1 (Nat.le_of_ble_eq_true rfl) dX12_numbers_130 ⟨Nat.zero_le _, Nat.zero_le _⟩ rfl ?_
          intro r_20 u H locs h hw
          obtain ⟨g_18, k_19⟩ := u
          dsimp only at h hw
          exact rtI (wf := (fun u : St × StL => (wM ad cI cC cZ cJ u.1 u.2))) (g_18, k_19) hC hr hlk hw rfl h dX12_numbers_133
        have h := h.2
        by_cases c_11_19 : x1 = (19 : Int32)
        · refine lv_tableIn (off := 78) (tgt := 134) hx hb dX12_numbers_56 (by rw [c_11_19]; decide) (by rw [c_11_19]; decide) (by rw [c_11_19]; decide) (by decide) ?_
          have h := h.1 c_11_19
          refine lv_iload hx hb dX12_numbers_134 (lv_at hl 0 rfl) ?_
          refine lv_if_ne (tgt := 147) hx hb dX12_numbers_136 (by decide) (fun c_21 => ?_) (fun c_21 => ?_)
          · have h := h.1 c_21
            refine lv_aload_n hx hb dX12_numbers_147 rfl (lv_at hl 2 rfl) ?_
            refine lv_iload hx hb dX12_numbers_148 (lv_at hl 1 rfl) ?_
            refine lv_iload hx hb dX12_numbers_150 (lv_at hl 0 rfl) ?_
            refine lv_idiv hx hb dX12_numbers_152 h.1 ?_
            have h := h.2
            refine cVIw (q0 := 0) kmX12_387 hC hw (m_X12_ranged l D cI cC cZ cJ ad (r_9 / r_10) g k h) rfl rfl ⟨by decide, by decide⟩ rfl rfl rfl hl.1 (Nat.le_of_ble_eq_true rfl) dX12_numbers_153 ⟨Nat.zero_le _, Nat.zero_le _⟩ rfl ?_
            intro r_24 u H locs h hw
            obtain ⟨g_22, k_23⟩ := u
            dsimp only at h hw
            exact rtI (wf := (fun u : St × StL => (wM ad cI cC cZ cJ u.1 u.2))) (g_22, k_23) hC hr hlk hw rfl h dX12_numbers_156
          · have h := h.2 c_21
            refine lv_aload_n hx hb dX12_numbers_139 rfl (lv_at hl 2 rfl) ?_
            refine lv_iconst (v := (5 : Int32)) hx hb dX12_numbers_140 (by decide) ?_
            refine cVIw (q0 := 0) kmX12_379 hC hw (m_X12_fail l D cI cC cZ cJ ad (5 : Int32) g k h) rfl rfl ⟨by decide, by decide⟩ rfl rfl rfl hl.1 (Nat.le_of_ble_eq_true rfl) dX12_numbers_141 ⟨Nat.zero_le _, Nat.zero_le _⟩ rfl ?_
            intro r_27 u H locs h hw
            obtain ⟨g_25, k_26⟩ := u
            dsimp only at h hw
            refine lv_goto (tgt := 156) hx hb dX12_numbers_144 (by decide) ?_
            exact rtI (wf := (fun u : St × StL => (wM ad cI cC cZ cJ u.1 u.2))) (g_25, k_26) hC hr hlk hw rfl h dX12_numbers_156
        have h := h.2
        by_cases c_11_20 : x1 = (20 : Int32)
        · refine lv_tableIn (off := 101) (tgt := 157) hx hb dX12_numbers_56 (by rw [c_11_20]; decide) (by rw [c_11_20]; decide) (by rw [c_11_20]; decide) (by decide) ?_
          have h := h.1 c_11_20
          refine lv_aload_n hx hb dX12_numbers_157 rfl (lv_at hl 2 rfl) ?_
          refine lv_iload hx hb dX12_numbers_158 (lv_at hl 1 rfl) ?_
          refine lv_iload hx hb dX12_numbers_160 (lv_at hl 0 rfl) ?_
          refine lv_icmp_ge (tgt := 169) hx hb dX12_numbers_162 (by decide) (fun c_28 => ?_) (fun c_28 => ?_)
          · have h := h.1 c_28
            refine lv_iconst (v := (0 : Int32)) hx hb dX12_numbers_169 (by decide) ?_
            refine cVIw (q0 := 0) kmX12_375 hC hw (m_X12_truth l D cI cC cZ cJ ad (0 : Int32) g k h) rfl rfl ⟨by decide, by decide⟩ rfl rfl rfl hl.1 (Nat.le_of_ble_eq_true rfl) dX12_numbers_170 ⟨Nat.zero_le _, Nat.zero_le _⟩ rfl ?_
            intro r_31 u H locs h hw
            obtain ⟨g_29, k_30⟩ := u
            dsimp only at h hw
            exact rtI (wf := (fun u : St × StL => (wM ad cI cC cZ cJ u.1 u.2))) (g_29, k_30) hC hr hlk hw rfl h dX12_numbers_173
          · have h := h.2 c_28
            refine lv_iconst (v := (1 : Int32)) hx hb dX12_numbers_165 (by decide) ?_
            refine lv_goto (tgt := 170) hx hb dX12_numbers_166 (by decide) ?_
            refine cVIw (q0 := 0) kmX12_375 hC hw (m_X12_truth l D cI cC cZ cJ ad (1 : Int32) g k h) rfl rfl ⟨by decide, by decide⟩ rfl rfl rfl hl.1 (Nat.le_of_ble_eq_true rfl) dX12_numbers_170 ⟨Nat.zero_le _, Nat.zero_le _⟩ rfl ?_
            intro r_34 u H locs h hw
            obtain ⟨g_32, k_33⟩ := u
            dsimp only at h hw
            exact rtI (wf := (fun u : St × StL => (wM ad cI cC cZ cJ u.1 u.2))) (g_32, k_33) hC hr hlk hw rfl h dX12_numbers_173
        have h := h.2
        by_cases c_11_21 : x1 = (21 : Int32)
        · refine lv_tableIn (off := 118) (tgt := 174) hx hb dX12_numbers_56 (by rw [c_11_21]; decide) (by rw [c_11_21]; decide) (by rw [c_11_21]; decide) (by decide) ?_
          have h := h.1 c_11_21
          refine lv_iload hx hb dX12_numbers_174 (lv_at hl 1 rfl) ?_
          refine lv_iload hx hb dX12_numbers_176 (lv_at hl 0 rfl) ?_
          refine lv_iand hx hb dX12_numbers_178 ?_
          refine cSI ksX12_214 hC (m_X12_numeral l (r_9 &&& r_10) h) rfl rfl ⟨by decide, by decide⟩ rfl hl.1 (Nat.le_of_ble_eq_true rfl) dX12_numbers_179 ⟨Nat.zero_le _, Nat.zero_le _⟩ rfl ?_
          intro r_35 h
          exact rtI (wf := (fun u : St × StL => (wM ad cI cC cZ cJ u.1 u.2))) (g, k) hC hr hlk hw rfl h dX12_numbers_182
        have h := h.2
        by_cases c_11_22 : x1 = (22 : Int32)
        · refine lv_tableIn (off := 127) (tgt := 183) hx hb dX12_numbers_56 (by rw [c_11_22]; decide) (by rw [c_11_22]; decide) (by rw [c_11_22]; decide) (by decide) ?_
          have h := h.1 c_11_22
          refine lv_iload hx hb dX12_numbers_183 (lv_at hl 1 rfl) ?_
          refine lv_iload hx hb dX12_numbers_185 (lv_at hl 0 rfl) ?_
          refine lv_ior hx hb dX12_numbers_187 ?_
          refine cSI ksX12_214 hC (m_X12_numeral l (r_9 ||| r_10) h) rfl rfl ⟨by decide, by decide⟩ rfl hl.1 (Nat.le_of_ble_eq_true rfl) dX12_numbers_188 ⟨Nat.zero_le _, Nat.zero_le _⟩ rfl ?_
          intro r_36 h
          exact rtI (wf := (fun u : St × StL => (wM ad cI cC cZ cJ u.1 u.2))) (g, k) hC hr hlk hw rfl h dX12_numbers_191
        have h := h.2
        by_cases c_11_23 : x1 = (23 : Int32)
        · refine lv_tableIn (off := 136) (tgt := 192) hx hb dX12_numbers_56 (by rw [c_11_23]; decide) (by rw [c_11_23]; decide) (by rw [c_11_23]; decide) (by decide) ?_
          have h := h.1 c_11_23
          refine lv_iload hx hb dX12_numbers_192 (lv_at hl 1 rfl) ?_
          refine lv_iload hx hb dX12_numbers_194 (lv_at hl 0 rfl) ?_
          refine lv_ixor hx hb dX12_numbers_196 ?_
          refine cSI ksX12_214 hC (m_X12_numeral l (r_9 ^^^ r_10) h) rfl rfl ⟨by decide, by decide⟩ rfl hl.1 (Nat.le_of_ble_eq_true rfl) dX12_numbers_197 ⟨Nat.zero_le _, Nat.zero_le _⟩ rfl ?_
          intro r_37 h
          exact rtI (wf := (fun u : St × StL => (wM ad cI cC cZ cJ u.1 u.2))) (g, k) hC hr hlk hw rfl h dX12_numbers_200
        have h := h.2
        have nc_11_16 := lv_neT c_11_16 (a := 16) (by decide)
        have nc_11_17 := lv_neT c_11_17 (a := 17) (by decide)
        have nc_11_18 := lv_neT c_11_18 (a := 18) (by decide)
        have nc_11_19 := lv_neT c_11_19 (a := 19) (by decide)
        have nc_11_20 := lv_neT c_11_20 (a := 20) (by decide)
        have nc_11_21 := lv_neT c_11_21 (a := 21) (by decide)
        have nc_11_22 := lv_neT c_11_22 (a := 22) (by decide)
        have nc_11_23 := lv_neT c_11_23 (a := 23) (by decide)
        refine lv_tableOut (tgt := 201) hx hb dX12_numbers_56 (by omega) (by decide) ?_
        have h := h c_11_16 c_11_17 c_11_18 c_11_19 c_11_20 c_11_21 c_11_22 c_11_23
        refine lv_iload hx hb dX12_numbers_201 (lv_at hl 0 rfl) ?_
        refine lv_bipush (v := (-15 : Int32)) hx hb dX12_numbers_203 (by decide) ?_
        refine lv_icmp_lt (tgt := 215) hx hb dX12_numbers_205 (by decide) (fun c_38 => ?_) (fun c_38 => ?_)
        · have h := h.1 c_38
          refine lv_aload_n hx hb dX12_numbers_215 rfl (lv_at hl 2 rfl) ?_
          refine lv_iconst (v := (4 : Int32)) hx hb dX12_numbers_216 (by decide) ?_
          refine cVIw (q0 := 0) kmX12_379 hC hw (m_X12_fail l D cI cC cZ cJ ad (4 : Int32) g k h) rfl rfl ⟨by decide, by decide⟩ rfl rfl rfl hl.1 (Nat.le_of_ble_eq_true rfl) dX12_numbers_217 ⟨Nat.zero_le _, Nat.zero_le _⟩ rfl ?_
          intro r_41 u H locs h hw
          obtain ⟨g_39, k_40⟩ := u
          dsimp only at h hw
          exact rtI (wf := (fun u : St × StL => (wM ad cI cC cZ cJ u.1 u.2))) (g_39, k_40) hC hr hlk hw rfl h dX12_numbers_220
        · have h := h.2 c_38
          refine lv_iload hx hb dX12_numbers_208 (lv_at hl 0 rfl) ?_
          refine lv_bipush (v := (15 : Int32)) hx hb dX12_numbers_210 (by decide) ?_
          refine lv_icmp_le (tgt := 221) hx hb dX12_numbers_212 (by decide) (fun c_42 => ?_) (fun c_42 => ?_)
          · have h := h.1 c_42
            refine lv_iload hx hb dX12_numbers_221 (lv_at hl 1 rfl) ?_
            refine lv_ldcw (v := (65535 : Int32)) hx hb hC.2.2.2.1 (hC.2.2.2.2 _ (List.mem_cons_of_mem _ kcX12_390)) dX12_numbers_223 ?_
            refine lv_iand hx hb dX12_numbers_226 ?_
            refine lv_topi (fun x_43 ex_43 => ?_)
            have h := h x_43 ex_43
            refine lv_istore (lv' := [(6, .int x_43), (5, .int r_10), (4, .int r_9), (0, .ref (ad 0)), (1, .int x1), (2, .int x2), (3, .int x3)]) hx hb dX12_numbers_227 hl (by decide) rfl (fun ls hl => ?_)
            refine lv_iload hx hb dX12_numbers_229 (lv_at hl 1 rfl) ?_
            refine lv_if_ge (tgt := 243) hx hb dX12_numbers_231 (by decide) (fun c_44 => ?_) (fun c_44 => ?_)
            · have h := h.1 c_44
              refine lv_iload hx hb dX12_numbers_243 (lv_at hl 0 rfl) ?_
              refine lv_iload hx hb dX12_numbers_245 (lv_at hl 1 rfl) ?_
              refine lv_ishl hx hb dX12_numbers_247 ?_
              refine lv_i2s hx hb dX12_numbers_248 rfl ?_
              refine cSI ksX12_214 hC (m_X12_numeral l (((x_43 <<< (r_10 &&& 31))).toInt16.toInt32) h) rfl rfl ⟨by decide, by decide⟩ rfl hl.1 (Nat.le_of_ble_eq_true rfl) dX12_numbers_249 ⟨Nat.zero_le _, Nat.zero_le _⟩ rfl ?_
              intro r_45 h
              exact rtI (wf := (fun u : St × StL => (wM ad cI cC cZ cJ u.1 u.2))) (g, k) hC hr hlk hw rfl h dX12_numbers_252
            · have h := h.2 c_44
              refine lv_iload hx hb dX12_numbers_234 (lv_at hl 0 rfl) ?_
              refine lv_iload hx hb dX12_numbers_236 (lv_at hl 1 rfl) ?_
              refine lv_ineg hx hb dX12_numbers_238 ?_
              refine lv_ishr hx hb dX12_numbers_239 ?_
              refine lv_goto (tgt := 248) hx hb dX12_numbers_240 (by decide) ?_
              refine lv_i2s hx hb dX12_numbers_248 rfl ?_
              refine cSI ksX12_214 hC (m_X12_numeral l (((x_43 >>> ((-r_10) &&& 31))).toInt16.toInt32) h) rfl rfl ⟨by decide, by decide⟩ rfl hl.1 (Nat.le_of_ble_eq_true rfl) dX12_numbers_249 ⟨Nat.zero_le _, Nat.zero_le _⟩ rfl ?_
              intro r_46 h
              exact rtI (wf := (fun u : St × StL => (wM ad cI cC cZ cJ u.1 u.2))) (g, k) hC hr hlk hw rfl h dX12_numbers_252
          · have h := h.2 c_42
            refine lv_aload_n hx hb dX12_numbers_215 rfl (lv_at hl 2 rfl) ?_
            refine lv_iconst (v := (4 : Int32)) hx hb dX12_numbers_216 (by decide) ?_
            refine cVIw (q0 := 0) kmX12_379 hC hw (m_X12_fail l D cI cC cZ cJ ad (4 : Int32) g k h) rfl rfl ⟨by decide, by decide⟩ rfl rfl rfl hl.1 (Nat.le_of_ble_eq_true rfl) dX12_numbers_217 ⟨Nat.zero_le _, Nat.zero_le _⟩ rfl ?_
            intro r_49 u H locs h hw
            obtain ⟨g_47, k_48⟩ := u
            dsimp only at h hw
            exact rtI (wf := (fun u : St × StL => (wM ad cI cC cZ cJ u.1 u.2))) (g_47, k_48) hC hr hlk hw rfl h dX12_numbers_220
      · have h := h.2 c_8
        refine lv_aload_n hx hb dX12_numbers_37 rfl (lv_at hl 0 rfl) ?_
        refine lv_iconst (v := (4 : Int32)) hx hb dX12_numbers_38 (by decide) ?_
        refine cVIw (q0 := 0) kmX12_379 hC hw (m_X12_fail l D cI cC cZ cJ ad (4 : Int32) g k h) rfl rfl ⟨by decide, by decide⟩ rfl rfl rfl hl.1 (Nat.le_of_ble_eq_true rfl) dX12_numbers_39 ⟨Nat.zero_le _, Nat.zero_le _⟩ rfl ?_
        intro r_52 u H locs h hw
        obtain ⟨g_50, k_51⟩ := u
        dsimp only at h hw
        exact rtI (wf := (fun u : St × StL => (wM ad cI cC cZ cJ u.1 u.2))) (g_50, k_51) hC hr hlk hw rfl h dX12_numbers_42
  · have h := h.2 c_1
    refine lv_aload_n hx hb dX12_numbers_6 rfl (lv_at hl 0 rfl) ?_
    refine lv_iload_n hx hb dX12_numbers_7 rfl (lv_at hl 2 rfl) ?_
    refine lv_iload_n hx hb dX12_numbers_8 rfl (lv_at hl 3 rfl) ?_
    refine lv_icmp_ne (tgt := 16) hx hb dX12_numbers_9 (by decide) (fun c_53 => ?_) (fun c_53 => ?_)
    · have h := h.1 c_53
      refine lv_iconst (v := (0 : Int32)) hx hb dX12_numbers_16 (by decide) ?_
      refine cVIw (q0 := 0) kmX12_375 hC hw (m_X12_truth l D cI cC cZ cJ ad (0 : Int32) g k h) rfl rfl ⟨by decide, by decide⟩ rfl rfl rfl hl.1 (Nat.le_of_ble_eq_true rfl) dX12_numbers_17 ⟨Nat.zero_le _, Nat.zero_le _⟩ rfl ?_
      intro r_56 u H locs h hw
      obtain ⟨g_54, k_55⟩ := u
      dsimp only at h hw
      exact rtI (wf := (fun u : St × StL => (wM ad cI cC cZ cJ u.1 u.2))) (g_54, k_55) hC hr hlk hw rfl h dX12_numbers_20
    · have h := h.2 c_53
      refine lv_iconst (v := (1 : Int32)) hx hb dX12_numbers_12 (by decide) ?_
      refine lv_goto (tgt := 17) hx hb dX12_numbers_13 (by decide) ?_
      refine cVIw (q0 := 0) kmX12_375 hC hw (m_X12_truth l D cI cC cZ cJ ad (1 : Int32) g k h) rfl rfl ⟨by decide, by decide⟩ rfl rfl rfl hl.1 (Nat.le_of_ble_eq_true rfl) dX12_numbers_17 ⟨Nat.zero_le _, Nat.zero_le _⟩ rfl ?_
      intro r_59 u H locs h hw
      obtain ⟨g_57, k_58⟩ := u
      dsimp only at h hw
      exact rtI (wf := (fun u : St × StL => (wM ad cI cC cZ cJ u.1 u.2))) (g_57, k_58) hC hr hlk hw rfl h dX12_numbers_20
def V_X12_vector_61 (post : Int32 → St → StL → Prop) : Nat → Int32 → Int32 → Int32 → Int32 → St → StL → Prop
  | 0, _, _, _, _, _, _ => False
  | n + 1, x2, x3, x4, x5, g, k => ((x3 ≤ x5 → V_X12_code (5 : Int32) x4 (fun r_2 => post r_2 g k)) ∧ (¬ x3 ≤ x5 → (vp_in (((8 : Int32) * x4) + x5) 1344 ∧ ∀ g_3 : St, g_3 = up g 10 (((8 : Int32) * x4) + x5).toNatClampNeg x2 → ∀ x_4 : Int32, x_4 = x5 + (1 : Int32) → V_X12_vector_61 post n x2 x3 x4 x_4 g_3 k)))
def V_X12_vector (n : Nat) (x1 : Int32) (x2 : Int32) (g : St) (k : StL) (post : Int32 → St → StL → Prop) : Prop := V_X12_sortOf x1 (fun r_5 => ((¬ r_5 = (2 : Int32) → V_X12_fail (4 : Int32) g k (fun r_9 g_7 k_8 => post r_9 g_7 k_8)) ∧ (r_5 = (2 : Int32) → V_X12_amount x1 (fun r_10 => ((r_10 < 0 → V_X12_fail (4 : Int32) g k (fun r_14 g_12 k_13 => post r_14 g_12 k_13)) ∧ (¬ r_10 < 0 → V_X12_amount x1 (fun r_15 => ((r_15 ≤ (7 : Int32) → V_X12_amount x1 (fun r_17 => V_X12_room n (r_17 + (1 : Int32)) g k (fun r_20 g_18 k_19 => ((¬ r_20 = 0 → V_X12_make n (2 : Int32) (r_17 + (1 : Int32)) g_18 k_19 (fun r_24 g_22 k_23 => ∀ x_25 : Int32, x_25 = (0 : Int32) → V_X12_vector_61 post n x2 r_17 r_24 x_25 g_22 k_23)) ∧ (r_20 = 0 → post (1048576 : Int32) g_18 k_19))))) ∧ (¬ r_15 ≤ (7 : Int32) → V_X12_fail (4 : Int32) g k (fun r_28 g_26 k_27 => post r_28 g_26 k_27))))))))))
abbrev RM_X12_vector : Room := { frames := 5, cells := 0, slots := 0, locals := 109 }
set_option maxHeartbeats 4000000 in
set_option maxRecDepth 100000 in
theorem m_X12_vector (l : Launch) (D : va_G) (cI cC cZ cJ : ClassId) (ad : Nat → Nat) (n : Nat) (x1 : Int32) (x2 : Int32) (g : St) (k : StL) {post : Int32 → St → StL → Prop} (h : V_X12_vector n x1 x2 g k post) : MetI l yX12_vector cX12_vector 6 .int RM_X12_vector D (ty4 cI cC cZ cJ) (wM ad cI cC cZ cJ g k) [.ref (ad 0), .int x1, .int x2] (fun u : St × StL => (wM ad cI cC cZ cJ u.1 u.2)) (fun (r : Int32) (u : St × StL) => post r u.1 u.2) := by
  refine mkI (by decide) (Nat.le_of_ble_eq_true rfl) ?_
  intro p e s m args below meth c A ls hC hr hlk hw hl
  have hx := hC.1
  have hb := hC.2.1
  have hl : lv_has ls 6 [(0, .ref (ad 0)), (1, .int x1), (2, .int x2)] := hl
  have w_61 : ∀ (n : Nat) (x2 : Int32) (x3 : Int32) (x4 : Int32) (x5 : Int32) (g : St) (k : StL) (H : Heap) (locs : List Loc) (ls : Array Slot), V_X12_vector_61 post n x2 x3 x4 x5 g k → Wd D (ty4 cI cC cZ cJ) A s (wM ad cI cC cZ cJ g k) H locs → lv_has ls 6 [(0, .ref (ad 0)), (2, .int x2), (3, .int x3), (4, .int x4), (5, .int x5)] → W p l e RM_X12_vector s m args below meth c H locs 0 0 (QI below D (ty4 cI cC cZ cJ) A args s (fun u : St × StL => (wM ad cI cC cZ cJ u.1 u.2)) (fun (r : Int32) (u : St × StL) => post r u.1 u.2)) (F0 m 61 ls []) := by
    intro n
    induction n with
    | zero =>
      intro x2 x3 x4 x5 g k H locs ls h
      exact False.elim h
    | succ n ih =>
      intro x2 x3 x4 x5 g k H locs ls h hw hl
      rw [V_X12_vector_61] at h
      refine lv_iload hx hb dX12_vector_61 (lv_at hl 4 rfl) ?_
      refine lv_iload_n hx hb dX12_vector_63 rfl (lv_at hl 2 rfl) ?_
      refine lv_icmp_ge (tgt := 87) hx hb dX12_vector_64 (by decide) (fun c_1 => ?_) (fun c_1 => ?_)
      · have h := h.1 c_1
        refine lv_iconst (v := (5 : Int32)) hx hb dX12_vector_87 (by decide) ?_
        refine lv_iload hx hb dX12_vector_88 (lv_at hl 3 rfl) ?_
        refine cSI ksX12_171 hC (m_X12_code l (5 : Int32) x4 h) rfl rfl ⟨by decide, by decide⟩ rfl hl.1 (Nat.le_of_ble_eq_true rfl) dX12_vector_90 ⟨Nat.zero_le _, Nat.zero_le _⟩ rfl ?_
        intro r_2 h
        exact rtI (wf := (fun u : St × StL => (wM ad cI cC cZ cJ u.1 u.2))) (g, k) hC hr hlk hw rfl h dX12_vector_93
      · have h := h.2 c_1
        refine lv_aload_n hx hb dX12_vector_67 rfl (lv_at hl 0 rfl) ?_
        refine gt (v := .ref (ad 12)) kfX12_107 0 hC hw rfl rfl dX12_vector_68 ?_
        refine lv_bipush (v := (8 : Int32)) hx hb dX12_vector_71 (by decide) ?_
        refine lv_iload hx hb dX12_vector_73 (lv_at hl 3 rfl) ?_
        refine lv_imul hx hb dX12_vector_75 ?_
        refine lv_iload hx hb dX12_vector_76 (lv_at hl 4 rfl) ?_
        refine lv_iadd hx hb dX12_vector_78 ?_
        refine lv_iload_n hx hb dX12_vector_79 rfl (lv_at hl 1 rfl) ?_
        refine swM_12 h.1 hC hw dX12_vector_80 (fun H locs g_3 eg_3 hw => ?_)
        have h := h.2 g_3 eg_3
        obtain ⟨x_4, ex_4⟩ : ∃ y : Int32, y = x5 + (1 : Int32) := ⟨_, rfl⟩
        have h := h x_4 ex_4
        refine lv_iinc (v := x_4) (lv' := [(5, .int x_4), (0, .ref (ad 0)), (2, .int x2), (3, .int x3), (4, .int x4)]) hx hb dX12_vector_81 hl (k := 4) rfl (by rw [ex_4]; rfl) (by decide) rfl (fun ls hl => ?_)
        refine lv_goto (tgt := 61) hx hb dX12_vector_84 (by decide) ?_
        exact ih x2 x3 x4 x_4 g_3 k _ _ _ h hw (lv_sub hl [1, 2, 3, 4, 0] rfl)
  unfold V_X12_vector at h
  refine lv_iload_n hx hb dX12_vector_0 rfl (lv_at hl 1 rfl) ?_
  refine cSI ksX12_254 hC (m_X12_sortOf l x1 h) rfl rfl ⟨by decide, by decide⟩ rfl hl.1 (Nat.le_of_ble_eq_true rfl) dX12_vector_1 ⟨Nat.zero_le _, Nat.zero_le _⟩ rfl ?_
  intro r_5 h
  refine lv_iconst (v := (2 : Int32)) hx hb dX12_vector_4 (by decide) ?_
  refine lv_icmp_ne (tgt := 24) hx hb dX12_vector_5 (by decide) (fun c_6 => ?_) (fun c_6 => ?_)
  · have h := h.1 c_6
    refine lv_aload_n hx hb dX12_vector_24 rfl (lv_at hl 0 rfl) ?_
    refine lv_iconst (v := (4 : Int32)) hx hb dX12_vector_25 (by decide) ?_
    refine cVIw (q0 := 0) kmX12_379 hC hw (m_X12_fail l D cI cC cZ cJ ad (4 : Int32) g k h) rfl rfl ⟨by decide, by decide⟩ rfl rfl rfl hl.1 (Nat.le_of_ble_eq_true rfl) dX12_vector_26 ⟨Nat.zero_le _, Nat.zero_le _⟩ rfl ?_
    intro r_9 u H locs h hw
    obtain ⟨g_7, k_8⟩ := u
    dsimp only at h hw
    exact rtI (wf := (fun u : St × StL => (wM ad cI cC cZ cJ u.1 u.2))) (g_7, k_8) hC hr hlk hw rfl h dX12_vector_29
  · have h := h.2 c_6
    refine lv_iload_n hx hb dX12_vector_8 rfl (lv_at hl 1 rfl) ?_
    refine cSI ksX12_385 hC (m_X12_amount l x1 h) rfl rfl ⟨by decide, by decide⟩ rfl hl.1 (Nat.le_of_ble_eq_true rfl) dX12_vector_9 ⟨Nat.zero_le _, Nat.zero_le _⟩ rfl ?_
    intro r_10 h
    refine lv_if_lt (tgt := 24) hx hb dX12_vector_12 (by decide) (fun c_11 => ?_) (fun c_11 => ?_)
    · have h := h.1 c_11
      refine lv_aload_n hx hb dX12_vector_24 rfl (lv_at hl 0 rfl) ?_
      refine lv_iconst (v := (4 : Int32)) hx hb dX12_vector_25 (by decide) ?_
      refine cVIw (q0 := 0) kmX12_379 hC hw (m_X12_fail l D cI cC cZ cJ ad (4 : Int32) g k h) rfl rfl ⟨by decide, by decide⟩ rfl rfl rfl hl.1 (Nat.le_of_ble_eq_true rfl) dX12_vector_26 ⟨Nat.zero_le _, Nat.zero_le _⟩ rfl ?_
      intro r_14 u H locs h hw
      obtain ⟨g_12, k_13⟩ := u
      dsimp only at h hw
      exact rtI (wf := (fun u : St × StL => (wM ad cI cC cZ cJ u.1 u.2))) (g_12, k_13) hC hr hlk hw rfl h dX12_vector_29
    · have h := h.2 c_11
      refine lv_iload_n hx hb dX12_vector_15 rfl (lv_at hl 1 rfl) ?_
      refine cSI ksX12_385 hC (m_X12_amount l x1 h) rfl rfl ⟨by decide, by decide⟩ rfl hl.1 (Nat.le_of_ble_eq_true rfl) dX12_vector_16 ⟨Nat.zero_le _, Nat.zero_le _⟩ rfl ?_
      intro r_15 h
      refine lv_bipush (v := (7 : Int32)) hx hb dX12_vector_19 (by decide) ?_
      refine lv_icmp_le (tgt := 30) hx hb dX12_vector_21 (by decide) (fun c_16 => ?_) (fun c_16 => ?_)
      · have h := h.1 c_16
        refine lv_iload_n hx hb dX12_vector_30 rfl (lv_at hl 1 rfl) ?_
        refine cSI ksX12_385 hC (m_X12_amount l x1 h) rfl rfl ⟨by decide, by decide⟩ rfl hl.1 (Nat.le_of_ble_eq_true rfl) dX12_vector_31 ⟨Nat.zero_le _, Nat.zero_le _⟩ rfl ?_
        intro r_17 h
        refine lv_istore_n (lv' := [(3, .int r_17), (0, .ref (ad 0)), (1, .int x1), (2, .int x2)]) hx hb dX12_vector_34 rfl hl (by decide) rfl (fun ls hl => ?_)
        refine lv_aload_n hx hb dX12_vector_35 rfl (lv_at hl 1 rfl) ?_
        refine lv_iload_n hx hb dX12_vector_36 rfl (lv_at hl 0 rfl) ?_
        refine lv_iconst (v := (1 : Int32)) hx hb dX12_vector_37 (by decide) ?_
        refine lv_iadd hx hb dX12_vector_38 ?_
        refine cVIw (q0 := 0) kmX12_329 hC hw (m_X12_room l D cI cC cZ cJ ad n (r_17 + (1 : Int32)) g k h) rfl rfl ⟨by decide, by decide⟩ rfl rfl rfl hl.1 (Nat.le_of_ble_eq_true rfl) dX12_vector_39 ⟨Nat.zero_le _, Nat.zero_le _⟩ rfl ?_
        intro r_20 u H locs h hw
        obtain ⟨g_18, k_19⟩ := u
        dsimp only at h hw
        refine lv_if_ne (tgt := 48) hx hb dX12_vector_42 (by decide) (fun c_21 => ?_) (fun c_21 => ?_)
        · have h := h.1 c_21
          refine lv_aload_n hx hb dX12_vector_48 rfl (lv_at hl 1 rfl) ?_
          refine lv_iconst (v := (2 : Int32)) hx hb dX12_vector_49 (by decide) ?_
          refine lv_iload_n hx hb dX12_vector_50 rfl (lv_at hl 0 rfl) ?_
          refine lv_iconst (v := (1 : Int32)) hx hb dX12_vector_51 (by decide) ?_
          refine lv_iadd hx hb dX12_vector_52 ?_
          refine cVIw (q0 := 0) kmX12_332 hC hw (m_X12_make l D cI cC cZ cJ ad n (2 : Int32) (r_17 + (1 : Int32)) g_18 k_19 h) rfl rfl ⟨by decide, by decide⟩ rfl rfl rfl hl.1 (Nat.le_of_ble_eq_true rfl) dX12_vector_53 ⟨Nat.zero_le _, Nat.zero_le _⟩ rfl ?_
          intro r_24 u H locs h hw
          obtain ⟨g_22, k_23⟩ := u
          dsimp only at h hw
          refine lv_istore (lv' := [(4, .int r_24), (3, .int r_17), (0, .ref (ad 0)), (1, .int x1), (2, .int x2)]) hx hb dX12_vector_56 hl (by decide) rfl (fun ls hl => ?_)
          refine lv_iconst (v := (0 : Int32)) hx hb dX12_vector_58 (by decide) ?_
          refine lv_topi (fun x_25 ex_25 => ?_)
          have h := h x_25 ex_25
          refine lv_istore (lv' := [(5, .int x_25), (4, .int r_24), (3, .int r_17), (0, .ref (ad 0)), (1, .int x1), (2, .int x2)]) hx hb dX12_vector_59 hl (by decide) rfl (fun ls hl => ?_)
          exact w_61 n x2 r_17 r_24 x_25 g_22 k_23 _ _ _ h hw (lv_sub hl [3, 5, 2, 1, 0] rfl)
        · have h := h.2 c_21
          refine lv_ldc (v := (1048576 : Int32)) hx hb hC.2.2.2.1 (hC.2.2.2.2 _ (List.mem_cons_of_mem _ kcX12_184)) dX12_vector_45 ?_
          exact rtI (wf := (fun u : St × StL => (wM ad cI cC cZ cJ u.1 u.2))) (g_18, k_19) hC hr hlk hw rfl h dX12_vector_47
      · have h := h.2 c_16
        refine lv_aload_n hx hb dX12_vector_24 rfl (lv_at hl 0 rfl) ?_
        refine lv_iconst (v := (4 : Int32)) hx hb dX12_vector_25 (by decide) ?_
        refine cVIw (q0 := 0) kmX12_379 hC hw (m_X12_fail l D cI cC cZ cJ ad (4 : Int32) g k h) rfl rfl ⟨by decide, by decide⟩ rfl rfl rfl hl.1 (Nat.le_of_ble_eq_true rfl) dX12_vector_26 ⟨Nat.zero_le _, Nat.zero_le _⟩ rfl ?_
        intro r_28 u H locs h hw
        obtain ⟨g_26, k_27⟩ := u
        dsimp only at h hw
        exact rtI (wf := (fun u : St × StL => (wM ad cI cC cZ cJ u.1 u.2))) (g_26, k_27) hC hr hlk hw rfl h dX12_vector_29
def V_X12_put (x1 : Int32) (g : St) (k : StL) (post : St → StL → Prop) : Prop := ((¬ (g 0 24) = (200 : Int32) → (vp_in (g 0 24) 200 ∧ ∀ g_2 : St, g_2 = up g 23 (g 0 24).toNatClampNeg (vp_nar .char (((x1).toUInt32 % 65536).toInt32)) → ∀ g_3 : St, g_3 = us g_2 24 ((g_2 0 24) + (1 : Int32)) → post g_3 k)) ∧ ((g 0 24) = (200 : Int32) → post g k))
abbrev RM_X12_put : Room := { frames := 0, cells := 0, slots := 0, locals := 0 }
set_option maxHeartbeats 4000000 in
set_option maxRecDepth 100000 in
theorem m_X12_put (l : Launch) (D : va_G) (cI cC cZ cJ : ClassId) (ad : Nat → Nat) (x1 : Int32) (g : St) (k : StL) {post : St → StL → Prop} (h : V_X12_put x1 g k post) : MetV l yX12_put cX12_put 2 RM_X12_put D (ty4 cI cC cZ cJ) (wM ad cI cC cZ cJ g k) [.ref (ad 0), .int x1] (fun u : St × StL => (wM ad cI cC cZ cJ u.1 u.2)) (fun u : St × StL => post u.1 u.2) := by
  refine mkV (by decide) (Nat.le_of_ble_eq_true rfl) ?_
  intro p e s m args below meth c A ls hC hr hlk hw hl
  have hx := hC.1
  have hb := hC.2.1
  have hl : lv_has ls 2 [(0, .ref (ad 0)), (1, .int x1)] := hl
  unfold V_X12_put at h
  refine lv_aload_n hx hb dX12_put_0 rfl (lv_at hl 0 rfl) ?_
  refine gt (v := .int (g 0 24)) kfX12_421 0 hC hw rfl rfl dX12_put_1 ?_
  refine lv_sipush (v := (200 : Int32)) hx hb dX12_put_4 (by decide) ?_
  refine lv_icmp_ne (tgt := 11) hx hb dX12_put_7 (by decide) (fun c_1 => ?_) (fun c_1 => ?_)
  · have h := h.1 c_1
    refine lv_aload_n hx hb dX12_put_11 rfl (lv_at hl 0 rfl) ?_
    refine gt (v := .ref (ad 25)) kfX12_146 0 hC hw rfl rfl dX12_put_12 ?_
    refine lv_aload_n hx hb dX12_put_15 rfl (lv_at hl 0 rfl) ?_
    refine gt (v := .int (g 0 24)) kfX12_421 0 hC hw rfl rfl dX12_put_16 ?_
    refine lv_iload_n hx hb dX12_put_19 rfl (lv_at hl 1 rfl) ?_
    refine lv_i2c hx hb dX12_put_20 rfl ?_
    refine swM_25 h.1 hC hw dX12_put_21 (fun H locs g_2 eg_2 hw => ?_)
    have h := h.2 g_2 eg_2
    refine lv_aload_n hx hb dX12_put_22 rfl (lv_at hl 0 rfl) ?_
    refine lv_dup hx hb dX12_put_23 rfl ?_
    refine gt (v := .int (g_2 0 24)) kfX12_421 0 hC hw rfl rfl dX12_put_24 ?_
    refine lv_iconst (v := (1 : Int32)) hx hb dX12_put_27 (by decide) ?_
    refine lv_iadd hx hb dX12_put_28 ?_
    refine pwM_50 kpX12_421 hC hw dX12_put_29 (fun H locs g_3 eg_3 hw => ?_)
    have h := h g_3 eg_3
    exact rtV (wf := (fun u : St × StL => (wM ad cI cC cZ cJ u.1 u.2))) (g_3, k) hC hr hlk hw h dX12_put_32
  · have h := h.2 c_1
    exact rtV (wf := (fun u : St × StL => (wM ad cI cC cZ cJ u.1 u.2))) (g, k) hC hr hlk hw h dX12_put_10
def V_X12_figures_46 (post : St → StL → Prop) : Nat → Int32 → Int32 → St → StL → Prop
  | 0, _, _, _, _ => False
  | n + 1, x2, x4, g, k => ((x4 ≤ 0 → post g k) ∧ (¬ x4 ≤ 0 → (¬ x4 = 0 ∧ V_X12_put ((48 : Int32) + ((x2 / x4) - (x2 / x4) / (10 : Int32) * (10 : Int32))) g k (fun g_2 k_3 => ∀ x_5 : Int32, x_5 = (x4 / (10 : Int32)) → V_X12_figures_46 post n x2 x_5 g_2 k_3))))
def V_X12_figures_25 (post : St → StL → Prop) : Nat → Int32 → Int32 → St → StL → Prop
  | 0, _, _, _, _ => False
  | n + 1, x2, x3, g, k => ((x3 ≤ (1 : Int32) → V_X12_figures_46 post n x2 x3 g k) ∧ (¬ x3 ≤ (1 : Int32) → ((x3 ≤ x2 → V_X12_figures_46 post n x2 x3 g k) ∧ (¬ x3 ≤ x2 → ∀ x_8 : Int32, x_8 = (x3 / (10 : Int32)) → V_X12_figures_25 post n x2 x_8 g k))))
def V_X12_figures (n : Nat) (x1 : Int32) (g : St) (k : StL) (post : St → StL → Prop) : Prop := ((0 ≤ x1 → ((0 ≤ x1 → ∀ x_11 : Int32, x_11 = (10000 : Int32) → V_X12_figures_25 post n x1 x_11 g k) ∧ (¬ 0 ≤ x1 → ∀ x_12 : Int32, x_12 = (-x1) → ∀ x_13 : Int32, x_13 = (10000 : Int32) → V_X12_figures_25 post n x_12 x_13 g k))) ∧ (¬ 0 ≤ x1 → V_X12_put (45 : Int32) g k (fun g_14 k_15 => ((0 ≤ x1 → ∀ x_18 : Int32, x_18 = (10000 : Int32) → V_X12_figures_25 post n x1 x_18 g_14 k_15) ∧ (¬ 0 ≤ x1 → ∀ x_19 : Int32, x_19 = (-x1) → ∀ x_20 : Int32, x_20 = (10000 : Int32) → V_X12_figures_25 post n x_19 x_20 g_14 k_15)))))
abbrev RM_X12_figures : Room := { frames := 1, cells := 0, slots := 0, locals := 21 }
set_option maxHeartbeats 4000000 in
set_option maxRecDepth 100000 in
theorem m_X12_figures (l : Launch) (D : va_G) (cI cC cZ cJ : ClassId) (ad : Nat → Nat) (n : Nat) (x1 : Int32) (g : St) (k : StL) {post : St → StL → Prop} (h : V_X12_figures n x1 g k post) : MetV l yX12_figures cX12_figures 5 RM_X12_figures D (ty4 cI cC cZ cJ) (wM ad cI cC cZ cJ g k) [.ref (ad 0), .int x1] (fun u : St × StL => (wM ad cI cC cZ cJ u.1 u.2)) (fun u : St × StL => post u.1 u.2) := by
  refine mkV (by decide) (Nat.le_of_ble_eq_true rfl) ?_
  intro p e s m args below meth c A ls hC hr hlk hw hl
  have hx := hC.1
  have hb := hC.2.1
  have hl : lv_has ls 5 [(0, .ref (ad 0)), (1, .int x1)] := hl
  have w_46 : ∀ (n : Nat) (x2 : Int32) (x4 : Int32) (g : St) (k : StL) (H : Heap) (locs : List Loc) (ls : Array Slot), V_X12_figures_46 post n x2 x4 g k → Wd D (ty4 cI cC cZ cJ) A s (wM ad cI cC cZ cJ g k) H locs → lv_has ls 5 [(0, .ref (ad 0)), (2, .int x2), (4, .int x4)] → W p l e RM_X12_figures s m args below meth c H locs 0 0 (QV below D (ty4 cI cC cZ cJ) A args s (fun u : St × StL => (wM ad cI cC cZ cJ u.1 u.2)) (fun u : St × StL => post u.1 u.2)) (F0 m 46 ls []) := by
    intro n
    induction n with
    | zero =>
      intro x2 x4 g k H locs ls h
      exact False.elim h
    | succ n ih =>
      intro x2 x4 g k H locs ls h hw hl
      rw [V_X12_figures_46] at h
      refine lv_iload hx hb dX12_figures_46 (lv_at hl 2 rfl) ?_
      refine lv_if_le (tgt := 75) hx hb dX12_figures_48 (by decide) (fun c_1 => ?_) (fun c_1 => ?_)
      · have h := h.1 c_1
        exact rtV (wf := (fun u : St × StL => (wM ad cI cC cZ cJ u.1 u.2))) (g, k) hC hr hlk hw h dX12_figures_75
      · have h := h.2 c_1
        refine lv_aload_n hx hb dX12_figures_51 rfl (lv_at hl 0 rfl) ?_
        refine lv_bipush (v := (48 : Int32)) hx hb dX12_figures_52 (by decide) ?_
        refine lv_iload_n hx hb dX12_figures_54 rfl (lv_at hl 1 rfl) ?_
        refine lv_iload hx hb dX12_figures_55 (lv_at hl 2 rfl) ?_
        refine lv_idiv hx hb dX12_figures_57 h.1 ?_
        have h := h.2
        refine lv_bipush (v := (10 : Int32)) hx hb dX12_figures_58 (by decide) ?_
        refine lv_irem hx hb dX12_figures_60 (by decide) ?_
        refine lv_iadd hx hb dX12_figures_61 ?_
        refine cVVw (q0 := 0) kmX12_424 hC hw (m_X12_put l D cI cC cZ cJ ad ((48 : Int32) + ((x2 / x4) - (x2 / x4) / (10 : Int32) * (10 : Int32))) g k h) rfl rfl ⟨by decide, by decide⟩ rfl rfl rfl hl.1 (Nat.le_of_ble_eq_true rfl) dX12_figures_62 ⟨Nat.zero_le _, Nat.zero_le _⟩ rfl ?_
        intro u H locs h hw
        obtain ⟨g_2, k_3⟩ := u
        dsimp only at h hw
        refine lv_iload hx hb dX12_figures_65 (lv_at hl 2 rfl) ?_
        refine lv_bipush (v := (10 : Int32)) hx hb dX12_figures_67 (by decide) ?_
        refine lv_idiv hx hb dX12_figures_69 (by decide) ?_
        refine lv_topi (fun x_5 ex_5 => ?_)
        have h := h x_5 ex_5
        refine lv_istore (lv' := [(4, .int x_5), (0, .ref (ad 0)), (2, .int x2)]) hx hb dX12_figures_70 hl (by decide) rfl (fun ls hl => ?_)
        refine lv_goto (tgt := 46) hx hb dX12_figures_72 (by decide) ?_
        exact ih x2 x_5 g_2 k_3 _ _ _ h hw (lv_sub hl [1, 2, 0] rfl)
  have w_25 : ∀ (n : Nat) (x2 : Int32) (x3 : Int32) (g : St) (k : StL) (H : Heap) (locs : List Loc) (ls : Array Slot), V_X12_figures_25 post n x2 x3 g k → Wd D (ty4 cI cC cZ cJ) A s (wM ad cI cC cZ cJ g k) H locs → lv_has ls 5 [(0, .ref (ad 0)), (2, .int x2), (3, .int x3)] → W p l e RM_X12_figures s m args below meth c H locs 0 0 (QV below D (ty4 cI cC cZ cJ) A args s (fun u : St × StL => (wM ad cI cC cZ cJ u.1 u.2)) (fun u : St × StL => post u.1 u.2)) (F0 m 25 ls []) := by
    intro n
    induction n with
    | zero =>
      intro x2 x3 g k H locs ls h
      exact False.elim h
    | succ n ih =>
      intro x2 x3 g k H locs ls h hw hl
      rw [V_X12_figures_25] at h
      refine lv_iload_n hx hb dX12_figures_25 rfl (lv_at hl 2 rfl) ?_
      refine lv_iconst (v := (1 : Int32)) hx hb dX12_figures_26 (by decide) ?_
      refine lv_icmp_le (tgt := 43) hx hb dX12_figures_27 (by decide) (fun c_6 => ?_) (fun c_6 => ?_)
      · have h := h.1 c_6
        refine lv_iload_n hx hb dX12_figures_43 rfl (lv_at hl 2 rfl) ?_
        refine lv_istore (lv' := [(4, .int x3), (0, .ref (ad 0)), (2, .int x2), (3, .int x3)]) hx hb dX12_figures_44 hl (by decide) rfl (fun ls hl => ?_)
        exact w_46 n x2 x3 g k _ _ _ h hw (lv_sub hl [1, 2, 0] rfl)
      · have h := h.2 c_6
        refine lv_iload_n hx hb dX12_figures_30 rfl (lv_at hl 1 rfl) ?_
        refine lv_iload_n hx hb dX12_figures_31 rfl (lv_at hl 2 rfl) ?_
        refine lv_icmp_ge (tgt := 43) hx hb dX12_figures_32 (by decide) (fun c_7 => ?_) (fun c_7 => ?_)
        · have h := h.1 c_7
          refine lv_iload_n hx hb dX12_figures_43 rfl (lv_at hl 2 rfl) ?_
          refine lv_istore (lv' := [(4, .int x3), (0, .ref (ad 0)), (2, .int x2), (3, .int x3)]) hx hb dX12_figures_44 hl (by decide) rfl (fun ls hl => ?_)
          exact w_46 n x2 x3 g k _ _ _ h hw (lv_sub hl [1, 2, 0] rfl)
        · have h := h.2 c_7
          refine lv_iload_n hx hb dX12_figures_35 rfl (lv_at hl 2 rfl) ?_
          refine lv_bipush (v := (10 : Int32)) hx hb dX12_figures_36 (by decide) ?_
          refine lv_idiv hx hb dX12_figures_38 (by decide) ?_
          refine lv_topi (fun x_8 ex_8 => ?_)
          have h := h x_8 ex_8
          refine lv_istore_n (lv' := [(3, .int x_8), (0, .ref (ad 0)), (2, .int x2)]) hx hb dX12_figures_39 rfl hl (by decide) rfl (fun ls hl => ?_)
          refine lv_goto (tgt := 25) hx hb dX12_figures_40 (by decide) ?_
          exact ih x2 x_8 g k _ _ _ h hw (lv_sub hl [1, 2, 0] rfl)
  unfold V_X12_figures at h
  refine lv_iload_n hx hb dX12_figures_0 rfl (lv_at hl 1 rfl) ?_
  refine lv_if_ge (tgt := 10) hx hb dX12_figures_1 (by decide) (fun c_9 => ?_) (fun c_9 => ?_)
  · have h := h.1 c_9
    refine lv_iload_n hx hb dX12_figures_10 rfl (lv_at hl 1 rfl) ?_
    refine lv_if_ge (tgt := 19) hx hb dX12_figures_11 (by decide) (fun c_10 => ?_) (fun c_10 => ?_)
    · have h := h.1 c_10
      refine lv_iload_n hx hb dX12_figures_19 rfl (lv_at hl 1 rfl) ?_
      refine lv_istore_n (lv' := [(2, .int x1), (0, .ref (ad 0)), (1, .int x1)]) hx hb dX12_figures_20 rfl hl (by decide) rfl (fun ls hl => ?_)
      refine lv_sipush (v := (10000 : Int32)) hx hb dX12_figures_21 (by decide) ?_
      refine lv_topi (fun x_11 ex_11 => ?_)
      have h := h x_11 ex_11
      refine lv_istore_n (lv' := [(3, .int x_11), (2, .int x1), (0, .ref (ad 0)), (1, .int x1)]) hx hb dX12_figures_24 rfl hl (by decide) rfl (fun ls hl => ?_)
      exact w_25 n x1 x_11 g k _ _ _ h hw (lv_sub hl [2, 1, 0] rfl)
    · have h := h.2 c_10
      refine lv_iload_n hx hb dX12_figures_14 rfl (lv_at hl 1 rfl) ?_
      refine lv_ineg hx hb dX12_figures_15 ?_
      refine lv_goto (tgt := 20) hx hb dX12_figures_16 (by decide) ?_
      refine lv_topi (fun x_12 ex_12 => ?_)
      have h := h x_12 ex_12
      refine lv_istore_n (lv' := [(2, .int x_12), (0, .ref (ad 0)), (1, .int x1)]) hx hb dX12_figures_20 rfl hl (by decide) rfl (fun ls hl => ?_)
      refine lv_sipush (v := (10000 : Int32)) hx hb dX12_figures_21 (by decide) ?_
      refine lv_topi (fun x_13 ex_13 => ?_)
      have h := h x_13 ex_13
      refine lv_istore_n (lv' := [(3, .int x_13), (2, .int x_12), (0, .ref (ad 0)), (1, .int x1)]) hx hb dX12_figures_24 rfl hl (by decide) rfl (fun ls hl => ?_)
      exact w_25 n x_12 x_13 g k _ _ _ h hw (lv_sub hl [2, 1, 0] rfl)
  · have h := h.2 c_9
    refine lv_aload_n hx hb dX12_figures_4 rfl (lv_at hl 0 rfl) ?_
    refine lv_bipush (v := (45 : Int32)) hx hb dX12_figures_5 (by decide) ?_
    refine cVVw (q0 := 0) kmX12_424 hC hw (m_X12_put l D cI cC cZ cJ ad (45 : Int32) g k h) rfl rfl ⟨by decide, by decide⟩ rfl rfl rfl hl.1 (Nat.le_of_ble_eq_true rfl) dX12_figures_7 ⟨Nat.zero_le _, Nat.zero_le _⟩ rfl ?_
    intro u H locs h hw
    obtain ⟨g_14, k_15⟩ := u
    dsimp only at h hw
    refine lv_iload_n hx hb dX12_figures_10 rfl (lv_at hl 1 rfl) ?_
    refine lv_if_ge (tgt := 19) hx hb dX12_figures_11 (by decide) (fun c_17 => ?_) (fun c_17 => ?_)
    · have h := h.1 c_17
      refine lv_iload_n hx hb dX12_figures_19 rfl (lv_at hl 1 rfl) ?_
      refine lv_istore_n (lv' := [(2, .int x1), (0, .ref (ad 0)), (1, .int x1)]) hx hb dX12_figures_20 rfl hl (by decide) rfl (fun ls hl => ?_)
      refine lv_sipush (v := (10000 : Int32)) hx hb dX12_figures_21 (by decide) ?_
      refine lv_topi (fun x_18 ex_18 => ?_)
      have h := h x_18 ex_18
      refine lv_istore_n (lv' := [(3, .int x_18), (2, .int x1), (0, .ref (ad 0)), (1, .int x1)]) hx hb dX12_figures_24 rfl hl (by decide) rfl (fun ls hl => ?_)
      exact w_25 n x1 x_18 g_14 k_15 _ _ _ h hw (lv_sub hl [2, 1, 0] rfl)
    · have h := h.2 c_17
      refine lv_iload_n hx hb dX12_figures_14 rfl (lv_at hl 1 rfl) ?_
      refine lv_ineg hx hb dX12_figures_15 ?_
      refine lv_goto (tgt := 20) hx hb dX12_figures_16 (by decide) ?_
      refine lv_topi (fun x_19 ex_19 => ?_)
      have h := h x_19 ex_19
      refine lv_istore_n (lv' := [(2, .int x_19), (0, .ref (ad 0)), (1, .int x1)]) hx hb dX12_figures_20 rfl hl (by decide) rfl (fun ls hl => ?_)
      refine lv_sipush (v := (10000 : Int32)) hx hb dX12_figures_21 (by decide) ?_
      refine lv_topi (fun x_20 ex_20 => ?_)
      have h := h x_20 ex_20
      refine lv_istore_n (lv' := [(3, .int x_20), (2, .int x_19), (0, .ref (ad 0)), (1, .int x1)]) hx hb dX12_figures_24 rfl hl (by decide) rfl (fun ls hl => ?_)
      exact w_25 n x_19 x_20 g_14 k_15 _ _ _ h hw (lv_sub hl [2, 1, 0] rfl)
def V_X12_letters_3 (post : St → StL → Prop) : Nat → Int64 → Int32 → St → StL → Prop
  | 0, _, _, _, _ => False
  | n + 1, x1, x3, g, k => ((x3 < 0 → post g k) ∧ (¬ x3 < 0 → ∀ x_2 : Int32, x_2 = (((x1 >>> ((x3).toInt64 &&& 63))).toInt32 &&& (127 : Int32)) → ((x_2 = 0 → ∀ x_4 : Int32, x_4 = x3 + (-7 : Int32) → V_X12_letters_3 post n x1 x_4 g k) ∧ (¬ x_2 = 0 → V_X12_put x_2 g k (fun g_5 k_6 => ∀ x_8 : Int32, x_8 = x3 + (-7 : Int32) → V_X12_letters_3 post n x1 x_8 g_5 k_6)))))
def V_X12_letters (n : Nat) (x1 : Int64) (g : St) (k : StL) (post : St → StL → Prop) : Prop := ∀ x_9 : Int32, x_9 = (28 : Int32) → V_X12_letters_3 post n x1 x_9 g k
abbrev RM_X12_letters : Room := { frames := 1, cells := 0, slots := 0, locals := 21 }
set_option maxHeartbeats 4000000 in
set_option maxRecDepth 100000 in
theorem m_X12_letters (l : Launch) (D : va_G) (cI cC cZ cJ : ClassId) (ad : Nat → Nat) (n : Nat) (x1 : Int64) (g : St) (k : StL) {post : St → StL → Prop} (h : V_X12_letters n x1 g k post) : MetV l yX12_letters cX12_letters 5 RM_X12_letters D (ty4 cI cC cZ cJ) (wM ad cI cC cZ cJ g k) [.ref (ad 0), .long x1] (fun u : St × StL => (wM ad cI cC cZ cJ u.1 u.2)) (fun u : St × StL => post u.1 u.2) := by
  refine mkV (by decide) (Nat.le_of_ble_eq_true rfl) ?_
  intro p e s m args below meth c A ls hC hr hlk hw hl
  have hx := hC.1
  have hb := hC.2.1
  have hl : lv_has ls 5 [(0, .ref (ad 0)), (1, .long x1)] := hl
  have w_3 : ∀ (n : Nat) (x1 : Int64) (x3 : Int32) (g : St) (k : StL) (H : Heap) (locs : List Loc) (ls : Array Slot), V_X12_letters_3 post n x1 x3 g k → Wd D (ty4 cI cC cZ cJ) A s (wM ad cI cC cZ cJ g k) H locs → lv_has ls 5 [(0, .ref (ad 0)), (1, .long x1), (3, .int x3)] → W p l e RM_X12_letters s m args below meth c H locs 0 0 (QV below D (ty4 cI cC cZ cJ) A args s (fun u : St × StL => (wM ad cI cC cZ cJ u.1 u.2)) (fun u : St × StL => post u.1 u.2)) (F0 m 3 ls []) := by
    intro n
    induction n with
    | zero =>
      intro x1 x3 g k H locs ls h
      exact False.elim h
    | succ n ih =>
      intro x1 x3 g k H locs ls h hw hl
      rw [V_X12_letters_3] at h
      refine lv_iload_n hx hb dX12_letters_3 rfl (lv_at hl 2 rfl) ?_
      refine lv_if_lt (tgt := 33) hx hb dX12_letters_4 (by decide) (fun c_1 => ?_) (fun c_1 => ?_)
      · have h := h.1 c_1
        exact rtV (wf := (fun u : St × StL => (wM ad cI cC cZ cJ u.1 u.2))) (g, k) hC hr hlk hw h dX12_letters_33
      · have h := h.2 c_1
        refine lv_lload_n hx hb dX12_letters_7 rfl (lv_at hl 1 rfl) ?_
        refine lv_iload_n hx hb dX12_letters_8 rfl (lv_at hl 2 rfl) ?_
        refine lv_lshr hx hb dX12_letters_9 rfl ?_
        refine lv_l2i hx hb dX12_letters_10 rfl ?_
        refine lv_bipush (v := (127 : Int32)) hx hb dX12_letters_11 (by decide) ?_
        refine lv_iand hx hb dX12_letters_13 ?_
        refine lv_topi (fun x_2 ex_2 => ?_)
        have h := h x_2 ex_2
        refine lv_istore (lv' := [(4, .int x_2), (0, .ref (ad 0)), (1, .long x1), (3, .int x3)]) hx hb dX12_letters_14 hl (by decide) rfl (fun ls hl => ?_)
        refine lv_iload hx hb dX12_letters_16 (lv_at hl 0 rfl) ?_
        refine lv_if_eq (tgt := 27) hx hb dX12_letters_18 (by decide) (fun c_3 => ?_) (fun c_3 => ?_)
        · have h := h.1 c_3
          obtain ⟨x_4, ex_4⟩ : ∃ y : Int32, y = x3 + (-7 : Int32) := ⟨_, rfl⟩
          have h := h x_4 ex_4
          refine lv_iinc (v := x_4) (lv' := [(3, .int x_4), (4, .int x_2), (0, .ref (ad 0)), (1, .long x1)]) hx hb dX12_letters_27 hl (k := 3) rfl (by rw [ex_4]; rfl) (by decide) rfl (fun ls hl => ?_)
          refine lv_goto (tgt := 3) hx hb dX12_letters_30 (by decide) ?_
          exact ih x1 x_4 g k _ _ _ h hw (lv_sub hl [2, 3, 0] rfl)
        · have h := h.2 c_3
          refine lv_aload_n hx hb dX12_letters_21 rfl (lv_at hl 1 rfl) ?_
          refine lv_iload hx hb dX12_letters_22 (lv_at hl 0 rfl) ?_
          refine cVVw (q0 := 0) kmX12_424 hC hw (m_X12_put l D cI cC cZ cJ ad x_2 g k h) rfl rfl ⟨by decide, by decide⟩ rfl rfl rfl hl.1 (Nat.le_of_ble_eq_true rfl) dX12_letters_24 ⟨Nat.zero_le _, Nat.zero_le _⟩ rfl ?_
          intro u H locs h hw
          obtain ⟨g_5, k_6⟩ := u
          dsimp only at h hw
          obtain ⟨x_8, ex_8⟩ : ∃ y : Int32, y = x3 + (-7 : Int32) := ⟨_, rfl⟩
          have h := h x_8 ex_8
          refine lv_iinc (v := x_8) (lv' := [(3, .int x_8), (4, .int x_2), (0, .ref (ad 0)), (1, .long x1)]) hx hb dX12_letters_27 hl (k := 3) rfl (by rw [ex_8]; rfl) (by decide) rfl (fun ls hl => ?_)
          refine lv_goto (tgt := 3) hx hb dX12_letters_30 (by decide) ?_
          exact ih x1 x_8 g_5 k_6 _ _ _ h hw (lv_sub hl [2, 3, 0] rfl)
  unfold V_X12_letters at h
  refine lv_bipush (v := (28 : Int32)) hx hb dX12_letters_0 (by decide) ?_
  refine lv_topi (fun x_9 ex_9 => ?_)
  have h := h x_9 ex_9
  refine lv_istore_n (lv' := [(3, .int x_9), (0, .ref (ad 0)), (1, .long x1)]) hx hb dX12_letters_2 rfl hl (by decide) rfl (fun ls hl => ?_)
  exact w_3 n x1 x_9 g k _ _ _ h hw (lv_sub hl [1, 2, 0] rfl)
def V_X12_show_44 (post : St → StL → Prop) (n : Nat) (x1 : Int32) (y0 : Int32) (g : St) (k : StL) : Prop := V_X12_put y0 g k (fun g_1 k_2 => (vp_in (g_1 0 26) 10 ∧ ∀ g_4 : St, g_4 = up g_1 25 (g_1 0 26).toNatClampNeg x1 → (vp_in (g_4 0 26) 10 ∧ ∀ g_5 : St, g_5 = up g_4 26 (g_4 0 26).toNatClampNeg (0 : Int32) → ∀ g_6 : St, g_6 = us g_5 26 ((g_5 0 26) + (1 : Int32)) → post g_6 k_2)))
def V_X12_show_15 (post : St → StL → Prop) (n : Nat) (x1 : Int32) (x2 : Int32) (g : St) (k : StL) : Prop := ((¬ (g 0 26) = (8 : Int32) → ((¬ x2 = (4 : Int32) → V_X12_show_44 post n x1 (91 : Int32) g k) ∧ (x2 = (4 : Int32) → V_X12_show_44 post n x1 (40 : Int32) g k))) ∧ ((g 0 26) = (8 : Int32) → V_X12_put (42 : Int32) g k (fun g_9 k_10 => post g_9 k_10)))
def V_X12_show (n : Nat) (x1 : Int32) (g : St) (k : StL) (post : St → StL → Prop) : Prop := V_X12_sortOf x1 (fun r_12 => ((r_12 = (4 : Int32) → V_X12_show_15 post n x1 r_12 g k) ∧ (¬ r_12 = (4 : Int32) → ((¬ r_12 = (5 : Int32) → ((¬ r_12 = (2 : Int32) → ((¬ r_12 = (3 : Int32) → ((¬ r_12 = (6 : Int32) → V_X12_letters n (1815788 : Int64) g k (fun g_18 k_19 => post g_18 k_19)) ∧ (r_12 = (6 : Int32) → V_X12_put (35 : Int32) g k (fun g_21 k_22 => post g_21 k_22)))) ∧ (r_12 = (3 : Int32) → V_X12_load x1 (fun r_24 => (vp_in r_24 40 ∧ V_X12_letters n (k 1 r_24.toNatClampNeg) g k (fun g_25 k_26 => post g_25 k_26)))))) ∧ (r_12 = (2 : Int32) → V_X12_amount x1 (fun r_28 => V_X12_figures n r_28 g k (fun g_29 k_30 => post g_29 k_30))))) ∧ (r_12 = (5 : Int32) → V_X12_show_15 post n x1 r_12 g k)))))
abbrev RM_X12_show : Room := { frames := 2, cells := 0, slots := 0, locals := 45 }
set_option maxHeartbeats 4000000 in
set_option maxRecDepth 100000 in
theorem m_X12_show (l : Launch) (D : va_G) (cI cC cZ cJ : ClassId) (ad : Nat → Nat) (n : Nat) (x1 : Int32) (g : St) (k : StL) {post : St → StL → Prop} (h : V_X12_show n x1 g k post) : MetV l yX12_show cX12_show 3 RM_X12_show D (ty4 cI cC cZ cJ) (wM ad cI cC cZ cJ g k) [.ref (ad 0), .int x1] (fun u : St × StL => (wM ad cI cC cZ cJ u.1 u.2)) (fun u : St × StL => post u.1 u.2) := by
  refine mkV (by decide) (Nat.le_of_ble_eq_true rfl) ?_
  intro p e s m args below meth c A ls hC hr hlk hw hl
  have hx := hC.1
  have hb := hC.2.1
  have hl : lv_has ls 3 [(0, .ref (ad 0)), (1, .int x1)] := hl
  have w_44 : ∀ (n : Nat) (x1 : Int32) (y0 : Int32) (g : St) (k : StL) (H : Heap) (locs : List Loc) (ls : Array Slot), V_X12_show_44 post n x1 y0 g k → Wd D (ty4 cI cC cZ cJ) A s (wM ad cI cC cZ cJ g k) H locs → lv_has ls 3 [(0, .ref (ad 0)), (1, .int x1)] → W p l e RM_X12_show s m args below meth c H locs 0 0 (QV below D (ty4 cI cC cZ cJ) A args s (fun u : St × StL => (wM ad cI cC cZ cJ u.1 u.2)) (fun u : St × StL => post u.1 u.2)) (F0 m 44 ls [.int y0, .ref (ad 0)]) := by
    intro n x1 y0 g k H locs ls h hw hl
    unfold V_X12_show_44 at h
    refine cVVw (q0 := 0) kmX12_424 hC hw (m_X12_put l D cI cC cZ cJ ad y0 g k h) rfl rfl ⟨by decide, by decide⟩ rfl rfl rfl hl.1 (Nat.le_of_ble_eq_true rfl) dX12_show_44 ⟨Nat.zero_le _, Nat.zero_le _⟩ rfl ?_
    intro u H locs h hw
    obtain ⟨g_1, k_2⟩ := u
    dsimp only at h hw
    refine lv_aload_n hx hb dX12_show_47 rfl (lv_at hl 0 rfl) ?_
    refine gt (v := .ref (ad 27)) kfX12_153 0 hC hw rfl rfl dX12_show_48 ?_
    refine lv_aload_n hx hb dX12_show_51 rfl (lv_at hl 0 rfl) ?_
    refine gt (v := .int (g_1 0 26)) kfX12_427 0 hC hw rfl rfl dX12_show_52 ?_
    refine lv_iload_n hx hb dX12_show_55 rfl (lv_at hl 1 rfl) ?_
    refine swM_27 h.1 hC hw dX12_show_56 (fun H locs g_4 eg_4 hw => ?_)
    have h := h.2 g_4 eg_4
    refine lv_aload_n hx hb dX12_show_57 rfl (lv_at hl 0 rfl) ?_
    refine gt (v := .ref (ad 28)) kfX12_156 0 hC hw rfl rfl dX12_show_58 ?_
    refine lv_aload_n hx hb dX12_show_61 rfl (lv_at hl 0 rfl) ?_
    refine gt (v := .int (g_4 0 26)) kfX12_427 0 hC hw rfl rfl dX12_show_62 ?_
    refine lv_iconst (v := (0 : Int32)) hx hb dX12_show_65 (by decide) ?_
    refine swM_28 h.1 hC hw dX12_show_66 (fun H locs g_5 eg_5 hw => ?_)
    have h := h.2 g_5 eg_5
    refine lv_aload_n hx hb dX12_show_67 rfl (lv_at hl 0 rfl) ?_
    refine lv_dup hx hb dX12_show_68 rfl ?_
    refine gt (v := .int (g_5 0 26)) kfX12_427 0 hC hw rfl rfl dX12_show_69 ?_
    refine lv_iconst (v := (1 : Int32)) hx hb dX12_show_72 (by decide) ?_
    refine lv_iadd hx hb dX12_show_73 ?_
    refine pwM_55 kpX12_427 hC hw dX12_show_74 (fun H locs g_6 eg_6 hw => ?_)
    have h := h g_6 eg_6
    refine lv_goto (tgt := 139) hx hb dX12_show_77 (by decide) ?_
    exact rtV (wf := (fun u : St × StL => (wM ad cI cC cZ cJ u.1 u.2))) (g_6, k_2) hC hr hlk hw h dX12_show_139
  have w_15 : ∀ (n : Nat) (x1 : Int32) (x2 : Int32) (g : St) (k : StL) (H : Heap) (locs : List Loc) (ls : Array Slot), V_X12_show_15 post n x1 x2 g k → Wd D (ty4 cI cC cZ cJ) A s (wM ad cI cC cZ cJ g k) H locs → lv_has ls 3 [(0, .ref (ad 0)), (1, .int x1), (2, .int x2)] → W p l e RM_X12_show s m args below meth c H locs 0 0 (QV below D (ty4 cI cC cZ cJ) A args s (fun u : St × StL => (wM ad cI cC cZ cJ u.1 u.2)) (fun u : St × StL => post u.1 u.2)) (F0 m 15 ls []) := by
    intro n x1 x2 g k H locs ls h hw hl
    unfold V_X12_show_15 at h
    refine lv_aload_n hx hb dX12_show_15 rfl (lv_at hl 0 rfl) ?_
    refine gt (v := .int (g 0 26)) kfX12_427 0 hC hw rfl rfl dX12_show_16 ?_
    refine lv_bipush (v := (8 : Int32)) hx hb dX12_show_19 (by decide) ?_
    refine lv_icmp_ne (tgt := 31) hx hb dX12_show_21 (by decide) (fun c_7 => ?_) (fun c_7 => ?_)
    · have h := h.1 c_7
      refine lv_aload_n hx hb dX12_show_31 rfl (lv_at hl 0 rfl) ?_
      refine lv_iload_n hx hb dX12_show_32 rfl (lv_at hl 2 rfl) ?_
      refine lv_iconst (v := (4 : Int32)) hx hb dX12_show_33 (by decide) ?_
      refine lv_icmp_ne (tgt := 42) hx hb dX12_show_34 (by decide) (fun c_8 => ?_) (fun c_8 => ?_)
      · have h := h.1 c_8
        refine lv_bipush (v := (91 : Int32)) hx hb dX12_show_42 (by decide) ?_
        exact w_44 n x1 (91 : Int32) g k _ _ _ h hw (lv_sub hl [0, 1] rfl)
      · have h := h.2 c_8
        refine lv_bipush (v := (40 : Int32)) hx hb dX12_show_37 (by decide) ?_
        refine lv_goto (tgt := 44) hx hb dX12_show_39 (by decide) ?_
        exact w_44 n x1 (40 : Int32) g k _ _ _ h hw (lv_sub hl [0, 1] rfl)
    · have h := h.2 c_7
      refine lv_aload_n hx hb dX12_show_24 rfl (lv_at hl 0 rfl) ?_
      refine lv_bipush (v := (42 : Int32)) hx hb dX12_show_25 (by decide) ?_
      refine cVVw (q0 := 0) kmX12_424 hC hw (m_X12_put l D cI cC cZ cJ ad (42 : Int32) g k h) rfl rfl ⟨by decide, by decide⟩ rfl rfl rfl hl.1 (Nat.le_of_ble_eq_true rfl) dX12_show_27 ⟨Nat.zero_le _, Nat.zero_le _⟩ rfl ?_
      intro u H locs h hw
      obtain ⟨g_9, k_10⟩ := u
      dsimp only at h hw
      exact rtV (wf := (fun u : St × StL => (wM ad cI cC cZ cJ u.1 u.2))) (g_9, k_10) hC hr hlk hw h dX12_show_30
  unfold V_X12_show at h
  refine lv_iload_n hx hb dX12_show_0 rfl (lv_at hl 1 rfl) ?_
  refine cSI ksX12_254 hC (m_X12_sortOf l x1 h) rfl rfl ⟨by decide, by decide⟩ rfl hl.1 (Nat.le_of_ble_eq_true rfl) dX12_show_1 ⟨Nat.zero_le _, Nat.zero_le _⟩ rfl ?_
  intro r_12 h
  refine lv_istore_n (lv' := [(2, .int r_12), (0, .ref (ad 0)), (1, .int x1)]) hx hb dX12_show_4 rfl hl (by decide) rfl (fun ls hl => ?_)
  refine lv_iload_n hx hb dX12_show_5 rfl (lv_at hl 0 rfl) ?_
  refine lv_iconst (v := (4 : Int32)) hx hb dX12_show_6 (by decide) ?_
  refine lv_icmp_eq (tgt := 15) hx hb dX12_show_7 (by decide) (fun c_13 => ?_) (fun c_13 => ?_)
  · have h := h.1 c_13
    exact w_15 n x1 r_12 g k _ _ _ h hw (lv_sub hl [1, 2, 0] rfl)
  · have h := h.2 c_13
    refine lv_iload_n hx hb dX12_show_10 rfl (lv_at hl 0 rfl) ?_
    refine lv_iconst (v := (5 : Int32)) hx hb dX12_show_11 (by decide) ?_
    refine lv_icmp_ne (tgt := 80) hx hb dX12_show_12 (by decide) (fun c_14 => ?_) (fun c_14 => ?_)
    · have h := h.1 c_14
      refine lv_iload_n hx hb dX12_show_80 rfl (lv_at hl 0 rfl) ?_
      refine lv_iconst (v := (2 : Int32)) hx hb dX12_show_81 (by decide) ?_
      refine lv_icmp_ne (tgt := 96) hx hb dX12_show_82 (by decide) (fun c_15 => ?_) (fun c_15 => ?_)
      · have h := h.1 c_15
        refine lv_iload_n hx hb dX12_show_96 rfl (lv_at hl 0 rfl) ?_
        refine lv_iconst (v := (3 : Int32)) hx hb dX12_show_97 (by decide) ?_
        refine lv_icmp_ne (tgt := 117) hx hb dX12_show_98 (by decide) (fun c_16 => ?_) (fun c_16 => ?_)
        · have h := h.1 c_16
          refine lv_iload_n hx hb dX12_show_117 rfl (lv_at hl 0 rfl) ?_
          refine lv_bipush (v := (6 : Int32)) hx hb dX12_show_118 (by decide) ?_
          refine lv_icmp_ne (tgt := 132) hx hb dX12_show_120 (by decide) (fun c_17 => ?_) (fun c_17 => ?_)
          · have h := h.1 c_17
            refine lv_aload_n hx hb dX12_show_132 rfl (lv_at hl 1 rfl) ?_
            refine lv_ldc2 (v := (1815788 : Int64)) hx hb hC.2.2.2.1 (hC.2.2.2.2 _ (List.mem_cons_of_mem _ kcX12_225)) dX12_show_133 ?_
            refine cVVw (q0 := 0) kmX12_433 hC hw (m_X12_letters l D cI cC cZ cJ ad n (1815788 : Int64) g k h) rfl rfl ⟨by decide, by decide⟩ rfl rfl rfl hl.1 (Nat.le_of_ble_eq_true rfl) dX12_show_136 ⟨Nat.zero_le _, Nat.zero_le _⟩ rfl ?_
            intro u H locs h hw
            obtain ⟨g_18, k_19⟩ := u
            dsimp only at h hw
            exact rtV (wf := (fun u : St × StL => (wM ad cI cC cZ cJ u.1 u.2))) (g_18, k_19) hC hr hlk hw h dX12_show_139
          · have h := h.2 c_17
            refine lv_aload_n hx hb dX12_show_123 rfl (lv_at hl 1 rfl) ?_
            refine lv_bipush (v := (35 : Int32)) hx hb dX12_show_124 (by decide) ?_
            refine cVVw (q0 := 0) kmX12_424 hC hw (m_X12_put l D cI cC cZ cJ ad (35 : Int32) g k h) rfl rfl ⟨by decide, by decide⟩ rfl rfl rfl hl.1 (Nat.le_of_ble_eq_true rfl) dX12_show_126 ⟨Nat.zero_le _, Nat.zero_le _⟩ rfl ?_
            intro u H locs h hw
            obtain ⟨g_21, k_22⟩ := u
            dsimp only at h hw
            refine lv_goto (tgt := 139) hx hb dX12_show_129 (by decide) ?_
            exact rtV (wf := (fun u : St × StL => (wM ad cI cC cZ cJ u.1 u.2))) (g_21, k_22) hC hr hlk hw h dX12_show_139
        · have h := h.2 c_16
          refine lv_aload_n hx hb dX12_show_101 rfl (lv_at hl 1 rfl) ?_
          refine lv_aload_n hx hb dX12_show_102 rfl (lv_at hl 1 rfl) ?_
          refine gt (v := .ref (ad 1)) kfX12_7 0 hC hw rfl rfl dX12_show_103 ?_
          refine lv_iload_n hx hb dX12_show_106 rfl (lv_at hl 2 rfl) ?_
          refine cSI ksX12_180 hC (m_X12_load l x1 h) rfl rfl ⟨by decide, by decide⟩ rfl hl.1 (Nat.le_of_ble_eq_true rfl) dX12_show_107 ⟨Nat.zero_le _, Nat.zero_le _⟩ rfl ?_
          intro r_24 h
          refine ldJ 1 3 hC hw rfl rfl h.1 dX12_show_110 ?_
          have h := h.2
          refine cVVw (q0 := 0) kmX12_433 hC hw (m_X12_letters l D cI cC cZ cJ ad n (k 1 r_24.toNatClampNeg) g k h) rfl rfl ⟨by decide, by decide⟩ rfl rfl rfl hl.1 (Nat.le_of_ble_eq_true rfl) dX12_show_111 ⟨Nat.zero_le _, Nat.zero_le _⟩ rfl ?_
          intro u H locs h hw
          obtain ⟨g_25, k_26⟩ := u
          dsimp only at h hw
          refine lv_goto (tgt := 139) hx hb dX12_show_114 (by decide) ?_
          exact rtV (wf := (fun u : St × StL => (wM ad cI cC cZ cJ u.1 u.2))) (g_25, k_26) hC hr hlk hw h dX12_show_139
      · have h := h.2 c_15
        refine lv_aload_n hx hb dX12_show_85 rfl (lv_at hl 1 rfl) ?_
        refine lv_iload_n hx hb dX12_show_86 rfl (lv_at hl 2 rfl) ?_
        refine cSI ksX12_385 hC (m_X12_amount l x1 h) rfl rfl ⟨by decide, by decide⟩ rfl hl.1 (Nat.le_of_ble_eq_true rfl) dX12_show_87 ⟨Nat.zero_le _, Nat.zero_le _⟩ rfl ?_
        intro r_28 h
        refine cVVw (q0 := 0) kmX12_430 hC hw (m_X12_figures l D cI cC cZ cJ ad n r_28 g k h) rfl rfl ⟨by decide, by decide⟩ rfl rfl rfl hl.1 (Nat.le_of_ble_eq_true rfl) dX12_show_90 ⟨Nat.zero_le _, Nat.zero_le _⟩ rfl ?_
        intro u H locs h hw
        obtain ⟨g_29, k_30⟩ := u
        dsimp only at h hw
        refine lv_goto (tgt := 139) hx hb dX12_show_93 (by decide) ?_
        exact rtV (wf := (fun u : St × StL => (wM ad cI cC cZ cJ u.1 u.2))) (g_29, k_30) hC hr hlk hw h dX12_show_139
    · have h := h.2 c_14
      exact w_15 n x1 r_12 g k _ _ _ h hw (lv_sub hl [1, 2, 0] rfl)
def V_X12_more_127 (post : St → StL → Prop) (n : Nat) (x1 : Int32) (y0 : Int32) (g : St) (k : StL) : Prop := ((¬ y0 = (1048576 : Int32) → V_X12_put (32 : Int32) g k (fun g_2 k_3 => V_X12_sortOf y0 (fun r_5 => ((¬ r_5 = (4 : Int32) → (vp_in x1 10 ∧ ∀ g_7 : St, g_7 = up g_2 26 x1.toNatClampNeg (-9 : Int32) → V_X12_put (46 : Int32) g_7 k_3 (fun g_8 k_9 => V_X12_put (32 : Int32) g_8 k_9 (fun g_11 k_12 => V_X12_show n y0 g_11 k_12 (fun g_14 k_15 => post g_14 k_15))))) ∧ (r_5 = (4 : Int32) → (vp_in x1 10 ∧ ∀ g_17 : St, g_17 = up g_2 25 x1.toNatClampNeg y0 → (vp_in x1 10 ∧ ∀ g_18 : St, g_18 = up g_17 26 x1.toNatClampNeg (1 : Int32) → V_X12_car y0 g_18 k_3 (fun r_21 g_19 k_20 => V_X12_show n r_21 g_19 k_20 (fun g_22 k_23 => post g_22 k_23))))))))) ∧ (y0 = (1048576 : Int32) → V_X12_put (41 : Int32) g k (fun g_25 k_26 => ∀ g_28 : St, g_28 = us g_25 26 ((g_25 0 26) - (1 : Int32)) → post g_28 k_26)))
def V_X12_more (n : Nat) (g : St) (k : StL) (post : St → StL → Prop) : Prop := ∀ x_29 : Int32, x_29 = ((g 0 26) - (1 : Int32)) → (vp_in x_29 10 ∧ ∀ x_30 : Int32, x_30 = (g 25 x_29.toNatClampNeg) → (vp_in x_29 10 ∧ ∀ x_31 : Int32, x_31 = (g 26 x_29.toNatClampNeg) → (vp_in x_29 10 ∧ ∀ g_32 : St, g_32 = up g 26 x_29.toNatClampNeg (x_31 + (1 : Int32)) → V_X12_sortOf x_30 (fun r_33 => ((¬ r_33 = (5 : Int32) → ((¬ x_31 = 0 → ((0 ≤ x_31 → V_X12_cdr x_30 g_32 k (fun r_39 g_37 k_38 => V_X12_more_127 post n x_29 r_39 g_37 k_38)) ∧ (¬ 0 ≤ x_31 → V_X12_more_127 post n x_29 (1048576 : Int32) g_32 k))) ∧ (x_31 = 0 → V_X12_car x_30 g_32 k (fun r_42 g_40 k_41 => V_X12_show n r_42 g_40 k_41 (fun g_43 k_44 => post g_43 k_44))))) ∧ (r_33 = (5 : Int32) → V_X12_load x_30 (fun r_46 => (vp_in r_46 168 ∧ ((¬ x_31 = ((g_32 9 r_46.toNatClampNeg) - (1 : Int32)) → ((x_31 ≤ 0 → V_X12_load x_30 (fun r_49 => (vp_in (((8 : Int32) * r_49) + x_31) 1344 ∧ V_X12_show n (g_32 10 (((8 : Int32) * r_49) + x_31).toNatClampNeg) g_32 k (fun g_50 k_51 => post g_50 k_51)))) ∧ (¬ x_31 ≤ 0 → V_X12_put (32 : Int32) g_32 k (fun g_53 k_54 => V_X12_load x_30 (fun r_56 => (vp_in (((8 : Int32) * r_56) + x_31) 1344 ∧ V_X12_show n (g_53 10 (((8 : Int32) * r_56) + x_31).toNatClampNeg) g_53 k_54 (fun g_57 k_58 => post g_57 k_58))))))) ∧ (x_31 = ((g_32 9 r_46.toNatClampNeg) - (1 : Int32)) → V_X12_put (93 : Int32) g_32 k (fun g_60 k_61 => ∀ g_63 : St, g_63 = us g_60 26 ((g_60 0 26) - (1 : Int32)) → post g_63 k_61)))))))))))
abbrev RM_X12_more : Room := { frames := 3, cells := 0, slots := 0, locals := 67 }
set_option maxHeartbeats 4000000 in
set_option maxRecDepth 100000 in
theorem m_X12_more (l : Launch) (D : va_G) (cI cC cZ cJ : ClassId) (ad : Nat → Nat) (n : Nat) (g : St) (k : StL) {post : St → StL → Prop} (h : V_X12_more n g k post) : MetV l yX12_more cX12_more 5 RM_X12_more D (ty4 cI cC cZ cJ) (wM ad cI cC cZ cJ g k) [.ref (ad 0)] (fun u : St × StL => (wM ad cI cC cZ cJ u.1 u.2)) (fun u : St × StL => post u.1 u.2) := by
  refine mkV (by decide) (Nat.le_of_ble_eq_true rfl) ?_
  intro p e s m args below meth c A ls hC hr hlk hw hl
  have hx := hC.1
  have hb := hC.2.1
  have hl : lv_has ls 5 [(0, .ref (ad 0))] := hl
  have w_127 : ∀ (n : Nat) (x1 : Int32) (y0 : Int32) (g : St) (k : StL) (H : Heap) (locs : List Loc) (ls : Array Slot), V_X12_more_127 post n x1 y0 g k → Wd D (ty4 cI cC cZ cJ) A s (wM ad cI cC cZ cJ g k) H locs → lv_has ls 5 [(0, .ref (ad 0)), (1, .int x1)] → W p l e RM_X12_more s m args below meth c H locs 0 0 (QV below D (ty4 cI cC cZ cJ) A args s (fun u : St × StL => (wM ad cI cC cZ cJ u.1 u.2)) (fun u : St × StL => post u.1 u.2)) (F0 m 127 ls [.int y0]) := by
    intro n x1 y0 g k H locs ls h hw hl
    unfold V_X12_more_127 at h
    refine lv_istore (lv' := [(4, .int y0), (0, .ref (ad 0)), (1, .int x1)]) hx hb dX12_more_127 hl (by decide) rfl (fun ls hl => ?_)
    refine lv_iload hx hb dX12_more_129 (lv_at hl 0 rfl) ?_
    refine lv_ldc (v := (1048576 : Int32)) hx hb hC.2.2.2.1 (hC.2.2.2.2 _ (List.mem_cons_of_mem _ kcX12_184)) dX12_more_131 ?_
    refine lv_icmp_ne (tgt := 153) hx hb dX12_more_133 (by decide) (fun c_1 => ?_) (fun c_1 => ?_)
    · have h := h.1 c_1
      refine lv_aload_n hx hb dX12_more_153 rfl (lv_at hl 1 rfl) ?_
      refine lv_bipush (v := (32 : Int32)) hx hb dX12_more_154 (by decide) ?_
      refine cVVw (q0 := 0) kmX12_424 hC hw (m_X12_put l D cI cC cZ cJ ad (32 : Int32) g k h) rfl rfl ⟨by decide, by decide⟩ rfl rfl rfl hl.1 (Nat.le_of_ble_eq_true rfl) dX12_more_156 ⟨Nat.zero_le _, Nat.zero_le _⟩ rfl ?_
      intro u H locs h hw
      obtain ⟨g_2, k_3⟩ := u
      dsimp only at h hw
      refine lv_iload hx hb dX12_more_159 (lv_at hl 0 rfl) ?_
      refine cSI ksX12_254 hC (m_X12_sortOf l y0 h) rfl rfl ⟨by decide, by decide⟩ rfl hl.1 (Nat.le_of_ble_eq_true rfl) dX12_more_161 ⟨Nat.zero_le _, Nat.zero_le _⟩ rfl ?_
      intro r_5 h
      refine lv_iconst (v := (4 : Int32)) hx hb dX12_more_164 (by decide) ?_
      refine lv_icmp_ne (tgt := 196) hx hb dX12_more_165 (by decide) (fun c_6 => ?_) (fun c_6 => ?_)
      · have h := h.1 c_6
        refine lv_aload_n hx hb dX12_more_196 rfl (lv_at hl 1 rfl) ?_
        refine gt (v := .ref (ad 28)) kfX12_156 0 hC hw rfl rfl dX12_more_197 ?_
        refine lv_iload_n hx hb dX12_more_200 rfl (lv_at hl 2 rfl) ?_
        refine lv_bipush (v := (-9 : Int32)) hx hb dX12_more_201 (by decide) ?_
        refine swM_28 h.1 hC hw dX12_more_203 (fun H locs g_7 eg_7 hw => ?_)
        have h := h.2 g_7 eg_7
        refine lv_aload_n hx hb dX12_more_204 rfl (lv_at hl 1 rfl) ?_
        refine lv_bipush (v := (46 : Int32)) hx hb dX12_more_205 (by decide) ?_
        refine cVVw (q0 := 0) kmX12_424 hC hw (m_X12_put l D cI cC cZ cJ ad (46 : Int32) g_7 k_3 h) rfl rfl ⟨by decide, by decide⟩ rfl rfl rfl hl.1 (Nat.le_of_ble_eq_true rfl) dX12_more_207 ⟨Nat.zero_le _, Nat.zero_le _⟩ rfl ?_
        intro u H locs h hw
        obtain ⟨g_8, k_9⟩ := u
        dsimp only at h hw
        refine lv_aload_n hx hb dX12_more_210 rfl (lv_at hl 1 rfl) ?_
        refine lv_bipush (v := (32 : Int32)) hx hb dX12_more_211 (by decide) ?_
        refine cVVw (q0 := 0) kmX12_424 hC hw (m_X12_put l D cI cC cZ cJ ad (32 : Int32) g_8 k_9 h) rfl rfl ⟨by decide, by decide⟩ rfl rfl rfl hl.1 (Nat.le_of_ble_eq_true rfl) dX12_more_213 ⟨Nat.zero_le _, Nat.zero_le _⟩ rfl ?_
        intro u H locs h hw
        obtain ⟨g_11, k_12⟩ := u
        dsimp only at h hw
        refine lv_aload_n hx hb dX12_more_216 rfl (lv_at hl 1 rfl) ?_
        refine lv_iload hx hb dX12_more_217 (lv_at hl 0 rfl) ?_
        refine cVVw (q0 := 0) kmX12_436 hC hw (m_X12_show l D cI cC cZ cJ ad n y0 g_11 k_12 h) rfl rfl ⟨by decide, by decide⟩ rfl rfl rfl hl.1 (Nat.le_of_ble_eq_true rfl) dX12_more_219 ⟨Nat.zero_le _, Nat.zero_le _⟩ rfl ?_
        intro u H locs h hw
        obtain ⟨g_14, k_15⟩ := u
        dsimp only at h hw
        exact rtV (wf := (fun u : St × StL => (wM ad cI cC cZ cJ u.1 u.2))) (g_14, k_15) hC hr hlk hw h dX12_more_222
      · have h := h.2 c_6
        refine lv_aload_n hx hb dX12_more_168 rfl (lv_at hl 1 rfl) ?_
        refine gt (v := .ref (ad 27)) kfX12_153 0 hC hw rfl rfl dX12_more_169 ?_
        refine lv_iload_n hx hb dX12_more_172 rfl (lv_at hl 2 rfl) ?_
        refine lv_iload hx hb dX12_more_173 (lv_at hl 0 rfl) ?_
        refine swM_27 h.1 hC hw dX12_more_175 (fun H locs g_17 eg_17 hw => ?_)
        have h := h.2 g_17 eg_17
        refine lv_aload_n hx hb dX12_more_176 rfl (lv_at hl 1 rfl) ?_
        refine gt (v := .ref (ad 28)) kfX12_156 0 hC hw rfl rfl dX12_more_177 ?_
        refine lv_iload_n hx hb dX12_more_180 rfl (lv_at hl 2 rfl) ?_
        refine lv_iconst (v := (1 : Int32)) hx hb dX12_more_181 (by decide) ?_
        refine swM_28 h.1 hC hw dX12_more_182 (fun H locs g_18 eg_18 hw => ?_)
        have h := h.2 g_18 eg_18
        refine lv_aload_n hx hb dX12_more_183 rfl (lv_at hl 1 rfl) ?_
        refine lv_aload_n hx hb dX12_more_184 rfl (lv_at hl 1 rfl) ?_
        refine lv_iload hx hb dX12_more_185 (lv_at hl 0 rfl) ?_
        refine cVIw (q0 := 0) kmX12_260 hC hw (m_X12_car l D cI cC cZ cJ ad y0 g_18 k_3 h) rfl rfl ⟨by decide, by decide⟩ rfl rfl rfl hl.1 (Nat.le_of_ble_eq_true rfl) dX12_more_187 ⟨Nat.zero_le _, Nat.zero_le _⟩ rfl ?_
        intro r_21 u H locs h hw
        obtain ⟨g_19, k_20⟩ := u
        dsimp only at h hw
        refine cVVw (q0 := 0) kmX12_436 hC hw (m_X12_show l D cI cC cZ cJ ad n r_21 g_19 k_20 h) rfl rfl ⟨by decide, by decide⟩ rfl rfl rfl hl.1 (Nat.le_of_ble_eq_true rfl) dX12_more_190 ⟨Nat.zero_le _, Nat.zero_le _⟩ rfl ?_
        intro u H locs h hw
        obtain ⟨g_22, k_23⟩ := u
        dsimp only at h hw
        refine lv_goto (tgt := 222) hx hb dX12_more_193 (by decide) ?_
        exact rtV (wf := (fun u : St × StL => (wM ad cI cC cZ cJ u.1 u.2))) (g_22, k_23) hC hr hlk hw h dX12_more_222
    · have h := h.2 c_1
      refine lv_aload_n hx hb dX12_more_136 rfl (lv_at hl 1 rfl) ?_
      refine lv_bipush (v := (41 : Int32)) hx hb dX12_more_137 (by decide) ?_
      refine cVVw (q0 := 0) kmX12_424 hC hw (m_X12_put l D cI cC cZ cJ ad (41 : Int32) g k h) rfl rfl ⟨by decide, by decide⟩ rfl rfl rfl hl.1 (Nat.le_of_ble_eq_true rfl) dX12_more_139 ⟨Nat.zero_le _, Nat.zero_le _⟩ rfl ?_
      intro u H locs h hw
      obtain ⟨g_25, k_26⟩ := u
      dsimp only at h hw
      refine lv_aload_n hx hb dX12_more_142 rfl (lv_at hl 1 rfl) ?_
      refine lv_dup hx hb dX12_more_143 rfl ?_
      refine gt (v := .int (g_25 0 26)) kfX12_427 0 hC hw rfl rfl dX12_more_144 ?_
      refine lv_iconst (v := (1 : Int32)) hx hb dX12_more_147 (by decide) ?_
      refine lv_isub hx hb dX12_more_148 ?_
      refine pwM_55 kpX12_427 hC hw dX12_more_149 (fun H locs g_28 eg_28 hw => ?_)
      have h := h g_28 eg_28
      exact rtV (wf := (fun u : St × StL => (wM ad cI cC cZ cJ u.1 u.2))) (g_28, k_26) hC hr hlk hw h dX12_more_152
  unfold V_X12_more at h
  refine lv_aload_n hx hb dX12_more_0 rfl (lv_at hl 0 rfl) ?_
  refine gt (v := .int (g 0 26)) kfX12_427 0 hC hw rfl rfl dX12_more_1 ?_
  refine lv_iconst (v := (1 : Int32)) hx hb dX12_more_4 (by decide) ?_
  refine lv_isub hx hb dX12_more_5 ?_
  refine lv_topi (fun x_29 ex_29 => ?_)
  have h := h x_29 ex_29
  refine lv_istore_n (lv' := [(1, .int x_29), (0, .ref (ad 0))]) hx hb dX12_more_6 rfl hl (by decide) rfl (fun ls hl => ?_)
  refine lv_aload_n hx hb dX12_more_7 rfl (lv_at hl 1 rfl) ?_
  refine gt (v := .ref (ad 27)) kfX12_153 0 hC hw rfl rfl dX12_more_8 ?_
  refine lv_iload_n hx hb dX12_more_11 rfl (lv_at hl 0 rfl) ?_
  refine ldI 27 0 hC hw rfl rfl h.1 dX12_more_12 ?_
  have h := h.2
  refine lv_topi (fun x_30 ex_30 => ?_)
  have h := h x_30 ex_30
  refine lv_istore_n (lv' := [(2, .int x_30), (1, .int x_29), (0, .ref (ad 0))]) hx hb dX12_more_13 rfl hl (by decide) rfl (fun ls hl => ?_)
  refine lv_aload_n hx hb dX12_more_14 rfl (lv_at hl 2 rfl) ?_
  refine gt (v := .ref (ad 28)) kfX12_156 0 hC hw rfl rfl dX12_more_15 ?_
  refine lv_iload_n hx hb dX12_more_18 rfl (lv_at hl 1 rfl) ?_
  refine ldI 28 0 hC hw rfl rfl h.1 dX12_more_19 ?_
  have h := h.2
  refine lv_topi (fun x_31 ex_31 => ?_)
  have h := h x_31 ex_31
  refine lv_istore_n (lv' := [(3, .int x_31), (2, .int x_30), (1, .int x_29), (0, .ref (ad 0))]) hx hb dX12_more_20 rfl hl (by decide) rfl (fun ls hl => ?_)
  refine lv_aload_n hx hb dX12_more_21 rfl (lv_at hl 3 rfl) ?_
  refine gt (v := .ref (ad 28)) kfX12_156 0 hC hw rfl rfl dX12_more_22 ?_
  refine lv_iload_n hx hb dX12_more_25 rfl (lv_at hl 2 rfl) ?_
  refine lv_iload_n hx hb dX12_more_26 rfl (lv_at hl 0 rfl) ?_
  refine lv_iconst (v := (1 : Int32)) hx hb dX12_more_27 (by decide) ?_
  refine lv_iadd hx hb dX12_more_28 ?_
  refine swM_28 h.1 hC hw dX12_more_29 (fun H locs g_32 eg_32 hw => ?_)
  have h := h.2 g_32 eg_32
  refine lv_iload_n hx hb dX12_more_30 rfl (lv_at hl 1 rfl) ?_
  refine cSI ksX12_254 hC (m_X12_sortOf l x_30 h) rfl rfl ⟨by decide, by decide⟩ rfl hl.1 (Nat.le_of_ble_eq_true rfl) dX12_more_31 ⟨Nat.zero_le _, Nat.zero_le _⟩ rfl ?_
  intro r_33 h
  refine lv_iconst (v := (5 : Int32)) hx hb dX12_more_34 (by decide) ?_
  refine lv_icmp_ne (tgt := 99) hx hb dX12_more_35 (by decide) (fun c_34 => ?_) (fun c_34 => ?_)
  · have h := h.1 c_34
    refine lv_iload_n hx hb dX12_more_99 rfl (lv_at hl 0 rfl) ?_
    refine lv_if_ne (tgt := 113) hx hb dX12_more_100 (by decide) (fun c_35 => ?_) (fun c_35 => ?_)
    · have h := h.1 c_35
      refine lv_iload_n hx hb dX12_more_113 rfl (lv_at hl 0 rfl) ?_
      refine lv_if_ge (tgt := 122) hx hb dX12_more_114 (by decide) (fun c_36 => ?_) (fun c_36 => ?_)
      · have h := h.1 c_36
        refine lv_aload_n hx hb dX12_more_122 rfl (lv_at hl 3 rfl) ?_
        refine lv_iload_n hx hb dX12_more_123 rfl (lv_at hl 1 rfl) ?_
        refine cVIw (q0 := 0) kmX12_251 hC hw (m_X12_cdr l D cI cC cZ cJ ad x_30 g_32 k h) rfl rfl ⟨by decide, by decide⟩ rfl rfl rfl hl.1 (Nat.le_of_ble_eq_true rfl) dX12_more_124 ⟨Nat.zero_le _, Nat.zero_le _⟩ rfl ?_
        intro r_39 u H locs h hw
        obtain ⟨g_37, k_38⟩ := u
        dsimp only at h hw
        exact w_127 n x_29 r_39 g_37 k_38 _ _ _ h hw (lv_sub hl [3, 2] rfl)
      · have h := h.2 c_36
        refine lv_ldc (v := (1048576 : Int32)) hx hb hC.2.2.2.1 (hC.2.2.2.2 _ (List.mem_cons_of_mem _ kcX12_184)) dX12_more_117 ?_
        refine lv_goto (tgt := 127) hx hb dX12_more_119 (by decide) ?_
        exact w_127 n x_29 (1048576 : Int32) g_32 k _ _ _ h hw (lv_sub hl [3, 2] rfl)
    · have h := h.2 c_35
      refine lv_aload_n hx hb dX12_more_103 rfl (lv_at hl 3 rfl) ?_
      refine lv_aload_n hx hb dX12_more_104 rfl (lv_at hl 3 rfl) ?_
      refine lv_iload_n hx hb dX12_more_105 rfl (lv_at hl 1 rfl) ?_
      refine cVIw (q0 := 0) kmX12_260 hC hw (m_X12_car l D cI cC cZ cJ ad x_30 g_32 k h) rfl rfl ⟨by decide, by decide⟩ rfl rfl rfl hl.1 (Nat.le_of_ble_eq_true rfl) dX12_more_106 ⟨Nat.zero_le _, Nat.zero_le _⟩ rfl ?_
      intro r_42 u H locs h hw
      obtain ⟨g_40, k_41⟩ := u
      dsimp only at h hw
      refine cVVw (q0 := 0) kmX12_436 hC hw (m_X12_show l D cI cC cZ cJ ad n r_42 g_40 k_41 h) rfl rfl ⟨by decide, by decide⟩ rfl rfl rfl hl.1 (Nat.le_of_ble_eq_true rfl) dX12_more_109 ⟨Nat.zero_le _, Nat.zero_le _⟩ rfl ?_
      intro u H locs h hw
      obtain ⟨g_43, k_44⟩ := u
      dsimp only at h hw
      exact rtV (wf := (fun u : St × StL => (wM ad cI cC cZ cJ u.1 u.2))) (g_43, k_44) hC hr hlk hw h dX12_more_112
  · have h := h.2 c_34
    refine lv_iload_n hx hb dX12_more_38 rfl (lv_at hl 0 rfl) ?_
    refine lv_aload_n hx hb dX12_more_39 rfl (lv_at hl 3 rfl) ?_
    refine gt (v := .ref (ad 11)) kfX12_104 0 hC hw rfl rfl dX12_more_40 ?_
    refine lv_iload_n hx hb dX12_more_43 rfl (lv_at hl 1 rfl) ?_
    refine cSI ksX12_180 hC (m_X12_load l x_30 h) rfl rfl ⟨by decide, by decide⟩ rfl hl.1 (Nat.le_of_ble_eq_true rfl) dX12_more_44 ⟨Nat.zero_le _, Nat.zero_le _⟩ rfl ?_
    intro r_46 h
    refine ldI 11 0 hC hw rfl rfl h.1 dX12_more_47 ?_
    have h := h.2
    refine lv_iconst (v := (1 : Int32)) hx hb dX12_more_48 (by decide) ?_
    refine lv_isub hx hb dX12_more_49 ?_
    refine lv_icmp_ne (tgt := 70) hx hb dX12_more_50 (by decide) (fun c_47 => ?_) (fun c_47 => ?_)
    · have h := h.1 c_47
      refine lv_iload_n hx hb dX12_more_70 rfl (lv_at hl 0 rfl) ?_
      refine lv_if_le (tgt := 80) hx hb dX12_more_71 (by decide) (fun c_48 => ?_) (fun c_48 => ?_)
      · have h := h.1 c_48
        refine lv_aload_n hx hb dX12_more_80 rfl (lv_at hl 3 rfl) ?_
        refine lv_aload_n hx hb dX12_more_81 rfl (lv_at hl 3 rfl) ?_
        refine gt (v := .ref (ad 12)) kfX12_107 0 hC hw rfl rfl dX12_more_82 ?_
        refine lv_bipush (v := (8 : Int32)) hx hb dX12_more_85 (by decide) ?_
        refine lv_iload_n hx hb dX12_more_87 rfl (lv_at hl 1 rfl) ?_
        refine cSI ksX12_180 hC (m_X12_load l x_30 h) rfl rfl ⟨by decide, by decide⟩ rfl hl.1 (Nat.le_of_ble_eq_true rfl) dX12_more_88 ⟨Nat.zero_le _, Nat.zero_le _⟩ rfl ?_
        intro r_49 h
        refine lv_imul hx hb dX12_more_91 ?_
        refine lv_iload_n hx hb dX12_more_92 rfl (lv_at hl 0 rfl) ?_
        refine lv_iadd hx hb dX12_more_93 ?_
        refine ldI 12 0 hC hw rfl rfl h.1 dX12_more_94 ?_
        have h := h.2
        refine cVVw (q0 := 0) kmX12_436 hC hw (m_X12_show l D cI cC cZ cJ ad n (g_32 10 (((8 : Int32) * r_49) + x_31).toNatClampNeg) g_32 k h) rfl rfl ⟨by decide, by decide⟩ rfl rfl rfl hl.1 (Nat.le_of_ble_eq_true rfl) dX12_more_95 ⟨Nat.zero_le _, Nat.zero_le _⟩ rfl ?_
        intro u H locs h hw
        obtain ⟨g_50, k_51⟩ := u
        dsimp only at h hw
        exact rtV (wf := (fun u : St × StL => (wM ad cI cC cZ cJ u.1 u.2))) (g_50, k_51) hC hr hlk hw h dX12_more_98
      · have h := h.2 c_48
        refine lv_aload_n hx hb dX12_more_74 rfl (lv_at hl 3 rfl) ?_
        refine lv_bipush (v := (32 : Int32)) hx hb dX12_more_75 (by decide) ?_
        refine cVVw (q0 := 0) kmX12_424 hC hw (m_X12_put l D cI cC cZ cJ ad (32 : Int32) g_32 k h) rfl rfl ⟨by decide, by decide⟩ rfl rfl rfl hl.1 (Nat.le_of_ble_eq_true rfl) dX12_more_77 ⟨Nat.zero_le _, Nat.zero_le _⟩ rfl ?_
        intro u H locs h hw
        obtain ⟨g_53, k_54⟩ := u
        dsimp only at h hw
        refine lv_aload_n hx hb dX12_more_80 rfl (lv_at hl 3 rfl) ?_
        refine lv_aload_n hx hb dX12_more_81 rfl (lv_at hl 3 rfl) ?_
        refine gt (v := .ref (ad 12)) kfX12_107 0 hC hw rfl rfl dX12_more_82 ?_
        refine lv_bipush (v := (8 : Int32)) hx hb dX12_more_85 (by decide) ?_
        refine lv_iload_n hx hb dX12_more_87 rfl (lv_at hl 1 rfl) ?_
        refine cSI ksX12_180 hC (m_X12_load l x_30 h) rfl rfl ⟨by decide, by decide⟩ rfl hl.1 (Nat.le_of_ble_eq_true rfl) dX12_more_88 ⟨Nat.zero_le _, Nat.zero_le _⟩ rfl ?_
        intro r_56 h
        refine lv_imul hx hb dX12_more_91 ?_
        refine lv_iload_n hx hb dX12_more_92 rfl (lv_at hl 0 rfl) ?_
        refine lv_iadd hx hb dX12_more_93 ?_
        refine ldI 12 0 hC hw rfl rfl h.1 dX12_more_94 ?_
        have h := h.2
        refine cVVw (q0 := 0) kmX12_436 hC hw (m_X12_show l D cI cC cZ cJ ad n (g_53 10 (((8 : Int32) * r_56) + x_31).toNatClampNeg) g_53 k_54 h) rfl rfl ⟨by decide, by decide⟩ rfl rfl rfl hl.1 (Nat.le_of_ble_eq_true rfl) dX12_more_95 ⟨Nat.zero_le _, Nat.zero_le _⟩ rfl ?_
        intro u H locs h hw
        obtain ⟨g_57, k_58⟩ := u
        dsimp only at h hw
        exact rtV (wf := (fun u : St × StL => (wM ad cI cC cZ cJ u.1 u.2))) (g_57, k_58) hC hr hlk hw h dX12_more_98
    · have h := h.2 c_47
      refine lv_aload_n hx hb dX12_more_53 rfl (lv_at hl 3 rfl) ?_
      refine lv_bipush (v := (93 : Int32)) hx hb dX12_more_54 (by decide) ?_
      refine cVVw (q0 := 0) kmX12_424 hC hw (m_X12_put l D cI cC cZ cJ ad (93 : Int32) g_32 k h) rfl rfl ⟨by decide, by decide⟩ rfl rfl rfl hl.1 (Nat.le_of_ble_eq_true rfl) dX12_more_56 ⟨Nat.zero_le _, Nat.zero_le _⟩ rfl ?_
      intro u H locs h hw
      obtain ⟨g_60, k_61⟩ := u
      dsimp only at h hw
      refine lv_aload_n hx hb dX12_more_59 rfl (lv_at hl 3 rfl) ?_
      refine lv_dup hx hb dX12_more_60 rfl ?_
      refine gt (v := .int (g_60 0 26)) kfX12_427 0 hC hw rfl rfl dX12_more_61 ?_
      refine lv_iconst (v := (1 : Int32)) hx hb dX12_more_64 (by decide) ?_
      refine lv_isub hx hb dX12_more_65 ?_
      refine pwM_55 kpX12_427 hC hw dX12_more_66 (fun H locs g_63 eg_63 hw => ?_)
      have h := h g_63 eg_63
      exact rtV (wf := (fun u : St × StL => (wM ad cI cC cZ cJ u.1 u.2))) (g_63, k_61) hC hr hlk hw h dX12_more_69
