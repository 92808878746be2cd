def V_X12_thrown (g : St) (k : StL) (post : Int32 → St → StL → Prop) : Prop := post (g 0 0) g k
abbrev RM_X12_thrown : Room := { frames := 0, cells := 0, slots := 0, locals := 0 }
set_option maxHeartbeats 4000000 in
set_option maxRecDepth 100000 in
theorem m_X12_thrown (l : Launch) (D : va_G) (cI cC cZ cJ : ClassId) (ad : Nat → Nat) (g : St) (k : StL) {post : Int32 → St → StL → Prop} (h : V_X12_thrown g k post) : MetI l yX12_thrown cX12_thrown 1 .int RM_X12_thrown D (ty4 cI cC cZ cJ) (wM ad cI cC cZ cJ g k) [.ref (ad 0)] (fun u : St × StL => (wM ad cI cC cZ cJ u.1 u.2)) (fun (r : Int32) (u : St × StL) => post r u.1 u.2) := by
  refine mkI (by decide) (Nat.le_of_ble_eq_true rfl) ?_
  intro p e s m args below meth c A ls hC hr hlk hw hl
  have hx := hC.1
  have hb := hC.2.1
  have hl : lv_has ls 1 [(0, .ref (ad 0))] := hl
  unfold V_X12_thrown at h
  refine lv_aload_n hx hb dX12_thrown_0 rfl (lv_at hl 0 rfl) ?_
  refine gt (v := .int (g 0 0)) kfX12_175 0 hC hw rfl rfl dX12_thrown_1 ?_
  exact rtI (wf := (fun u : St × StL => (wM ad cI cC cZ cJ u.1 u.2))) (g, k) hC hr hlk hw rfl h dX12_thrown_4
def V_X12_raise (x1 : Int32) (g : St) (k : StL) (post : Int32 → St → StL → Prop) : Prop := ∀ g_1 : St, g_1 = us g 0 x1 → post (0 : Int32) g_1 k
abbrev RM_X12_raise : Room := { frames := 0, cells := 0, slots := 0, locals := 0 }
set_option maxHeartbeats 4000000 in
set_option maxRecDepth 100000 in
theorem m_X12_raise (l : Launch) (D : va_G) (cI cC cZ cJ : ClassId) (ad : Nat → Nat) (x1 : Int32) (g : St) (k : StL) {post : Int32 → St → StL → Prop} (h : V_X12_raise x1 g k post) : MetI l yX12_raise cX12_raise 2 .int RM_X12_raise D (ty4 cI cC cZ cJ) (wM ad cI cC cZ cJ g k) [.ref (ad 0), .int x1] (fun u : St × StL => (wM ad cI cC cZ cJ u.1 u.2)) (fun (r : Int32) (u : St × StL) => post r u.1 u.2) := by
  refine mkI (by decide) (Nat.le_of_ble_eq_true rfl) ?_
  intro p e s m args below meth c A ls hC hr hlk hw hl
  have hx := hC.1
  have hb := hC.2.1
  have hl : lv_has ls 2 [(0, .ref (ad 0)), (1, .int x1)] := hl
  unfold V_X12_raise at h
  refine lv_aload_n hx hb dX12_raise_0 rfl (lv_at hl 0 rfl) ?_
  refine lv_iload_n hx hb dX12_raise_1 rfl (lv_at hl 1 rfl) ?_
  refine pwM_0 kpX12_175 hC hw dX12_raise_2 (fun H locs g_1 eg_1 hw => ?_)
  have h := h g_1 eg_1
  refine lv_iconst (v := (0 : Int32)) hx hb dX12_raise_5 (by decide) ?_
  exact rtI (wf := (fun u : St × StL => (wM ad cI cC cZ cJ u.1 u.2))) (g_1, k) hC hr hlk hw rfl h dX12_raise_6
def V_X12_code (x0 : Int32) (x1 : Int32) (post : Int32 → Prop) : Prop := post ((x0 <<< ((20 : Int32) &&& 31)) ||| x1)
abbrev RM_X12_code : Room := { frames := 0, cells := 0, slots := 0, locals := 0 }
set_option maxHeartbeats 4000000 in
set_option maxRecDepth 100000 in
theorem m_X12_code (l : Launch) (x0 : Int32) (x1 : Int32) {post : Int32 → Prop} (h : V_X12_code x0 x1 post) : MetS l yX12_code cX12_code 2 .int RM_X12_code [.int x0, .int x1] post := by
  refine mkS (by decide) (Nat.le_of_ble_eq_true rfl) ?_
  intro p e s m args below meth c ls hC hr hlk hl
  have hx := hC.1
  have hb := hC.2.1
  have hl : lv_has ls 2 [(0, .int x0), (1, .int x1)] := hl
  unfold V_X12_code at h
  refine lv_iload_n hx hb dX12_code_0 rfl (lv_at hl 0 rfl) ?_
  refine lv_bipush (v := (20 : Int32)) hx hb dX12_code_1 (by decide) ?_
  refine lv_ishl hx hb dX12_code_3 ?_
  refine lv_iload_n hx hb dX12_code_4 rfl (lv_at hl 1 rfl) ?_
  refine lv_ior hx hb dX12_code_5 ?_
  exact rtS hC hr hlk rfl h dX12_code_6
def V_X12_sortOf (x0 : Int32) (post : Int32 → Prop) : Prop := post (x0 >>> ((20 : Int32) &&& 31))
abbrev RM_X12_sortOf : Room := { frames := 0, cells := 0, slots := 0, locals := 0 }
set_option maxHeartbeats 4000000 in
set_option maxRecDepth 100000 in
theorem m_X12_sortOf (l : Launch) (x0 : Int32) {post : Int32 → Prop} (h : V_X12_sortOf x0 post) : MetS l yX12_sortOf cX12_sortOf 1 .int RM_X12_sortOf [.int x0] post := by
  refine mkS (by decide) (Nat.le_of_ble_eq_true rfl) ?_
  intro p e s m args below meth c ls hC hr hlk hl
  have hx := hC.1
  have hb := hC.2.1
  have hl : lv_has ls 1 [(0, .int x0)] := hl
  unfold V_X12_sortOf at h
  refine lv_iload_n hx hb dX12_sortOf_0 rfl (lv_at hl 0 rfl) ?_
  refine lv_bipush (v := (20 : Int32)) hx hb dX12_sortOf_1 (by decide) ?_
  refine lv_ishr hx hb dX12_sortOf_3 ?_
  exact rtS hC hr hlk rfl h dX12_sortOf_4
def V_X12_load (x0 : Int32) (post : Int32 → Prop) : Prop := post (x0 &&& (1048575 : Int32))
abbrev RM_X12_load : Room := { frames := 0, cells := 0, slots := 0, locals := 0 }
set_option maxHeartbeats 4000000 in
set_option maxRecDepth 100000 in
theorem m_X12_load (l : Launch) (x0 : Int32) {post : Int32 → Prop} (h : V_X12_load x0 post) : MetS l yX12_load cX12_load 1 .int RM_X12_load [.int x0] post := by
  refine mkS (by decide) (Nat.le_of_ble_eq_true rfl) ?_
  intro p e s m args below meth c ls hC hr hlk hl
  have hx := hC.1
  have hb := hC.2.1
  have hl : lv_has ls 1 [(0, .int x0)] := hl
  unfold V_X12_load at h
  refine lv_iload_n hx hb dX12_load_0 rfl (lv_at hl 0 rfl) ?_
  refine lv_ldc (v := (1048575 : Int32)) hx hb hC.2.2.2.1 (hC.2.2.2.2 _ (List.mem_cons_of_mem _ kcX12_178)) dX12_load_1 ?_
  refine lv_iand hx hb dX12_load_3 ?_
  exact rtS hC hr hlk rfl h dX12_load_4
def V_X12_numeral (x0 : Int32) (post : Int32 → Prop) : Prop := V_X12_code (2 : Int32) (x0 + (32768 : Int32)) (fun r_1 => post r_1)
abbrev RM_X12_numeral : Room := { frames := 1, cells := 0, slots := 0, locals := 21 }
set_option maxHeartbeats 4000000 in
set_option maxRecDepth 100000 in
theorem m_X12_numeral (l : Launch) (x0 : Int32) {post : Int32 → Prop} (h : V_X12_numeral x0 post) : MetS l yX12_numeral cX12_numeral 1 .int RM_X12_numeral [.int x0] post := by
  refine mkS (by decide) (Nat.le_of_ble_eq_true rfl) ?_
  intro p e s m args below meth c ls hC hr hlk hl
  have hx := hC.1
  have hb := hC.2.1
  have hl : lv_has ls 1 [(0, .int x0)] := hl
  unfold V_X12_numeral at h
  refine lv_iconst (v := (2 : Int32)) hx hb dX12_numeral_0 (by decide) ?_
  refine lv_iload_n hx hb dX12_numeral_1 rfl (lv_at hl 0 rfl) ?_
  refine lv_ldc (v := (32768 : Int32)) hx hb hC.2.2.2.1 (hC.2.2.2.2 _ (List.mem_cons_of_mem _ kcX12_179)) dX12_numeral_2 ?_
  refine lv_iadd hx hb dX12_numeral_4 ?_
  refine cSI ksX12_171 hC (m_X12_code l (2 : Int32) (x0 + (32768 : Int32)) h) rfl rfl ⟨by decide, by decide⟩ rfl hl.1 (Nat.le_of_ble_eq_true rfl) dX12_numeral_5 ⟨Nat.zero_le _, Nat.zero_le _⟩ rfl ?_
  intro r_1 h
  exact rtS hC hr hlk rfl h dX12_numeral_8
def V_X12_amount (x0 : Int32) (post : Int32 → Prop) : Prop := V_X12_load x0 (fun r_1 => post (r_1 - (32768 : Int32)))
abbrev RM_X12_amount : Room := { frames := 1, cells := 0, slots := 0, locals := 20 }
set_option maxHeartbeats 4000000 in
set_option maxRecDepth 100000 in
theorem m_X12_amount (l : Launch) (x0 : Int32) {post : Int32 → Prop} (h : V_X12_amount x0 post) : MetS l yX12_amount cX12_amount 1 .int RM_X12_amount [.int x0] post := by
  refine mkS (by decide) (Nat.le_of_ble_eq_true rfl) ?_
  intro p e s m args below meth c ls hC hr hlk hl
  have hx := hC.1
  have hb := hC.2.1
  have hl : lv_has ls 1 [(0, .int x0)] := hl
  unfold V_X12_amount at h
  refine lv_iload_n hx hb dX12_amount_0 rfl (lv_at hl 0 rfl) ?_
  refine cSI ksX12_180 hC (m_X12_load l x0 h) rfl rfl ⟨by decide, by decide⟩ rfl hl.1 (Nat.le_of_ble_eq_true rfl) dX12_amount_1 ⟨Nat.zero_le _, Nat.zero_le _⟩ rfl ?_
  intro r_1 h
  refine lv_ldc (v := (32768 : Int32)) hx hb hC.2.2.2.1 (hC.2.2.2.2 _ (List.mem_cons_of_mem _ kcX12_179)) dX12_amount_4 ?_
  refine lv_isub hx hb dX12_amount_6 ?_
  exact rtS hC hr hlk rfl h dX12_amount_7
def V_X12_truth (x1 : Int32) (g : St) (k : StL) (post : Int32 → St → StL → Prop) : Prop := ((x1 = 0 → post (1048576 : Int32) g k) ∧ (¬ x1 = 0 → V_X12_code (3 : Int32) (0 : Int32) (fun r_2 => post r_2 g k)))
abbrev RM_X12_truth : Room := { frames := 1, cells := 0, slots := 0, locals := 21 }
set_option maxHeartbeats 4000000 in
set_option maxRecDepth 100000 in
theorem m_X12_truth (l : Launch) (D : va_G) (cI cC cZ cJ : ClassId) (ad : Nat → Nat) (x1 : Int32) (g : St) (k : StL) {post : Int32 → St → StL → Prop} (h : V_X12_truth x1 g k post) : MetI l yX12_truth cX12_truth 2 .int RM_X12_truth D (ty4 cI cC cZ cJ) (wM ad cI cC cZ cJ g k) [.ref (ad 0), .int x1] (fun u : St × StL => (wM ad cI cC cZ cJ u.1 u.2)) (fun (r : Int32) (u : St × StL) => post r u.1 u.2) := by
  refine mkI (by decide) (Nat.le_of_ble_eq_true rfl) ?_
  intro p e s m args below meth c A ls hC hr hlk hw hl
  have hx := hC.1
  have hb := hC.2.1
  have hl : lv_has ls 2 [(0, .ref (ad 0)), (1, .int x1)] := hl
  unfold V_X12_truth at h
  refine lv_iload_n hx hb dX12_truth_0 rfl (lv_at hl 1 rfl) ?_
  refine lv_if_eq (tgt := 12) hx hb dX12_truth_1 (by decide) (fun c_1 => ?_) (fun c_1 => ?_)
  · have h := h.1 c_1
    refine lv_ldc (v := (1048576 : Int32)) hx hb hC.2.2.2.1 (hC.2.2.2.2 _ (List.mem_cons_of_mem _ kcX12_184)) dX12_truth_12 ?_
    exact rtI (wf := (fun u : St × StL => (wM ad cI cC cZ cJ u.1 u.2))) (g, k) hC hr hlk hw rfl h dX12_truth_14
  · have h := h.2 c_1
    refine lv_iconst (v := (3 : Int32)) hx hb dX12_truth_4 (by decide) ?_
    refine lv_iconst (v := (0 : Int32)) hx hb dX12_truth_5 (by decide) ?_
    refine cSI ksX12_171 hC (m_X12_code l (3 : Int32) (0 : Int32) h) rfl rfl ⟨by decide, by decide⟩ rfl hl.1 (Nat.le_of_ble_eq_true rfl) dX12_truth_6 ⟨Nat.zero_le _, Nat.zero_le _⟩ rfl ?_
    intro r_2 h
    refine lv_goto (tgt := 14) hx hb dX12_truth_9 (by decide) ?_
    exact rtI (wf := (fun u : St × StL => (wM ad cI cC cZ cJ u.1 u.2))) (g, k) hC hr hlk hw rfl h dX12_truth_14
def V_X12_car (x1 : Int32) (g : St) (k : StL) (post : Int32 → St → StL → Prop) : Prop := V_X12_load x1 (fun r_1 => (((2000 : Int32) ≤ r_1 → V_X12_load x1 (fun r_3 => (vp_in ((8 : Int32) * (r_3 - (2000 : Int32))) 1344 ∧ post (g 10 ((8 : Int32) * (r_3 - (2000 : Int32))).toNatClampNeg) g k))) ∧ (¬ (2000 : Int32) ≤ r_1 → V_X12_load x1 (fun r_4 => (vp_in r_4 1100 ∧ post (g 6 r_4.toNatClampNeg) g k)))))
abbrev RM_X12_car : Room := { frames := 1, cells := 0, slots := 0, locals := 20 }
set_option maxHeartbeats 4000000 in
set_option maxRecDepth 100000 in
theorem m_X12_car (l : Launch) (D : va_G) (cI cC cZ cJ : ClassId) (ad : Nat → Nat) (x1 : Int32) (g : St) (k : StL) {post : Int32 → St → StL → Prop} (h : V_X12_car x1 g k post) : MetI l yX12_car cX12_car 2 .int RM_X12_car D (ty4 cI cC cZ cJ) (wM ad cI cC cZ cJ g k) [.ref (ad 0), .int x1] (fun u : St × StL => (wM ad cI cC cZ cJ u.1 u.2)) (fun (r : Int32) (u : St × StL) => post r u.1 u.2) := by
  refine mkI (by decide) (Nat.le_of_ble_eq_true rfl) ?_
  intro p e s m args below meth c A ls hC hr hlk hw hl
  have hx := hC.1
  have hb := hC.2.1
  have hl : lv_has ls 2 [(0, .ref (ad 0)), (1, .int x1)] := hl
  unfold V_X12_car at h
  refine lv_iload_n hx hb dX12_car_0 rfl (lv_at hl 1 rfl) ?_
  refine cSI ksX12_180 hC (m_X12_load l x1 h) rfl rfl ⟨by decide, by decide⟩ rfl hl.1 (Nat.le_of_ble_eq_true rfl) dX12_car_1 ⟨Nat.zero_le _, Nat.zero_le _⟩ rfl ?_
  intro r_1 h
  refine lv_sipush (v := (2000 : Int32)) hx hb dX12_car_4 (by decide) ?_
  refine lv_icmp_ge (tgt := 22) hx hb dX12_car_7 (by decide) (fun c_2 => ?_) (fun c_2 => ?_)
  · have h := h.1 c_2
    refine lv_aload_n hx hb dX12_car_22 rfl (lv_at hl 0 rfl) ?_
    refine gt (v := .ref (ad 12)) kfX12_107 0 hC hw rfl rfl dX12_car_23 ?_
    refine lv_bipush (v := (8 : Int32)) hx hb dX12_car_26 (by decide) ?_
    refine lv_iload_n hx hb dX12_car_28 rfl (lv_at hl 1 rfl) ?_
    refine cSI ksX12_180 hC (m_X12_load l x1 h) rfl rfl ⟨by decide, by decide⟩ rfl hl.1 (Nat.le_of_ble_eq_true rfl) dX12_car_29 ⟨Nat.zero_le _, Nat.zero_le _⟩ rfl ?_
    intro r_3 h
    refine lv_sipush (v := (2000 : Int32)) hx hb dX12_car_32 (by decide) ?_
    refine lv_isub hx hb dX12_car_35 ?_
    refine lv_imul hx hb dX12_car_36 ?_
    refine ldI 12 0 hC hw rfl rfl h.1 dX12_car_37 ?_
    have h := h.2
    exact rtI (wf := (fun u : St × StL => (wM ad cI cC cZ cJ u.1 u.2))) (g, k) hC hr hlk hw rfl h dX12_car_38
  · have h := h.2 c_2
    refine lv_aload_n hx hb dX12_car_10 rfl (lv_at hl 0 rfl) ?_
    refine gt (v := .ref (ad 8)) kfX12_95 0 hC hw rfl rfl dX12_car_11 ?_
    refine lv_iload_n hx hb dX12_car_14 rfl (lv_at hl 1 rfl) ?_
    refine cSI ksX12_180 hC (m_X12_load l x1 h) rfl rfl ⟨by decide, by decide⟩ rfl hl.1 (Nat.le_of_ble_eq_true rfl) dX12_car_15 ⟨Nat.zero_le _, Nat.zero_le _⟩ rfl ?_
    intro r_4 h
    refine ldI 8 0 hC hw rfl rfl h.1 dX12_car_18 ?_
    have h := h.2
    refine lv_goto (tgt := 38) hx hb dX12_car_19 (by decide) ?_
    exact rtI (wf := (fun u : St × StL => (wM ad cI cC cZ cJ u.1 u.2))) (g, k) hC hr hlk hw rfl h dX12_car_38
def V_X12_cdr (x1 : Int32) (g : St) (k : StL) (post : Int32 → St → StL → Prop) : Prop := V_X12_load x1 (fun r_1 => (((2000 : Int32) ≤ r_1 → V_X12_load x1 (fun r_3 => (vp_in (((8 : Int32) * (r_3 - (2000 : Int32))) + (1 : Int32)) 1344 ∧ post (g 10 (((8 : Int32) * (r_3 - (2000 : Int32))) + (1 : Int32)).toNatClampNeg) g k))) ∧ (¬ (2000 : Int32) ≤ r_1 → V_X12_load x1 (fun r_4 => (vp_in r_4 1100 ∧ post (g 7 r_4.toNatClampNeg) g k)))))
abbrev RM_X12_cdr : Room := { frames := 1, cells := 0, slots := 0, locals := 20 }
set_option maxHeartbeats 4000000 in
set_option maxRecDepth 100000 in
theorem m_X12_cdr (l : Launch) (D : va_G) (cI cC cZ cJ : ClassId) (ad : Nat → Nat) (x1 : Int32) (g : St) (k : StL) {post : Int32 → St → StL → Prop} (h : V_X12_cdr x1 g k post) : MetI l yX12_cdr cX12_cdr 2 .int RM_X12_cdr D (ty4 cI cC cZ cJ) (wM ad cI cC cZ cJ g k) [.ref (ad 0), .int x1] (fun u : St × StL => (wM ad cI cC cZ cJ u.1 u.2)) (fun (r : Int32) (u : St × StL) => post r u.1 u.2) := by
  refine mkI (by decide) (Nat.le_of_ble_eq_true rfl) ?_
  intro p e s m args below meth c A ls hC hr hlk hw hl
  have hx := hC.1
  have hb := hC.2.1
  have hl : lv_has ls 2 [(0, .ref (ad 0)), (1, .int x1)] := hl
  unfold V_X12_cdr at h
  refine lv_iload_n hx hb dX12_cdr_0 rfl (lv_at hl 1 rfl) ?_
  refine cSI ksX12_180 hC (m_X12_load l x1 h) rfl rfl ⟨by decide, by decide⟩ rfl hl.1 (Nat.le_of_ble_eq_true rfl) dX12_cdr_1 ⟨Nat.zero_le _, Nat.zero_le _⟩ rfl ?_
  intro r_1 h
  refine lv_sipush (v := (2000 : Int32)) hx hb dX12_cdr_4 (by decide) ?_
  refine lv_icmp_ge (tgt := 22) hx hb dX12_cdr_7 (by decide) (fun c_2 => ?_) (fun c_2 => ?_)
  · have h := h.1 c_2
    refine lv_aload_n hx hb dX12_cdr_22 rfl (lv_at hl 0 rfl) ?_
    refine gt (v := .ref (ad 12)) kfX12_107 0 hC hw rfl rfl dX12_cdr_23 ?_
    refine lv_bipush (v := (8 : Int32)) hx hb dX12_cdr_26 (by decide) ?_
    refine lv_iload_n hx hb dX12_cdr_28 rfl (lv_at hl 1 rfl) ?_
    refine cSI ksX12_180 hC (m_X12_load l x1 h) rfl rfl ⟨by decide, by decide⟩ rfl hl.1 (Nat.le_of_ble_eq_true rfl) dX12_cdr_29 ⟨Nat.zero_le _, Nat.zero_le _⟩ rfl ?_
    intro r_3 h
    refine lv_sipush (v := (2000 : Int32)) hx hb dX12_cdr_32 (by decide) ?_
    refine lv_isub hx hb dX12_cdr_35 ?_
    refine lv_imul hx hb dX12_cdr_36 ?_
    refine lv_iconst (v := (1 : Int32)) hx hb dX12_cdr_37 (by decide) ?_
    refine lv_iadd hx hb dX12_cdr_38 ?_
    refine ldI 12 0 hC hw rfl rfl h.1 dX12_cdr_39 ?_
    have h := h.2
    exact rtI (wf := (fun u : St × StL => (wM ad cI cC cZ cJ u.1 u.2))) (g, k) hC hr hlk hw rfl h dX12_cdr_40
  · have h := h.2 c_2
    refine lv_aload_n hx hb dX12_cdr_10 rfl (lv_at hl 0 rfl) ?_
    refine gt (v := .ref (ad 9)) kfX12_98 0 hC hw rfl rfl dX12_cdr_11 ?_
    refine lv_iload_n hx hb dX12_cdr_14 rfl (lv_at hl 1 rfl) ?_
    refine cSI ksX12_180 hC (m_X12_load l x1 h) rfl rfl ⟨by decide, by decide⟩ rfl hl.1 (Nat.le_of_ble_eq_true rfl) dX12_cdr_15 ⟨Nat.zero_le _, Nat.zero_le _⟩ rfl ?_
    intro r_4 h
    refine ldI 9 0 hC hw rfl rfl h.1 dX12_cdr_18 ?_
    have h := h.2
    refine lv_goto (tgt := 40) hx hb dX12_cdr_19 (by decide) ?_
    exact rtI (wf := (fun u : St × StL => (wM ad cI cC cZ cJ u.1 u.2))) (g, k) hC hr hlk hw rfl h dX12_cdr_40
def V_X12_setCar (x1 : Int32) (x2 : Int32) (g : St) (k : StL) (post : St → StL → Prop) : Prop := V_X12_load x1 (fun r_1 => (((2000 : Int32) ≤ r_1 → V_X12_load x1 (fun r_3 => (vp_in ((8 : Int32) * (r_3 - (2000 : Int32))) 1344 ∧ ∀ g_4 : St, g_4 = up g 10 ((8 : Int32) * (r_3 - (2000 : Int32))).toNatClampNeg x2 → post g_4 k))) ∧ (¬ (2000 : Int32) ≤ r_1 → V_X12_load x1 (fun r_5 => (vp_in r_5 1100 ∧ ∀ g_6 : St, g_6 = up g 6 r_5.toNatClampNeg x2 → post g_6 k)))))
abbrev RM_X12_setCar : Room := { frames := 1, cells := 0, slots := 0, locals := 20 }
set_option maxHeartbeats 4000000 in
set_option maxRecDepth 100000 in
theorem m_X12_setCar (l : Launch) (D : va_G) (cI cC cZ cJ : ClassId) (ad : Nat → Nat) (x1 : Int32) (x2 : Int32) (g : St) (k : StL) {post : St → StL → Prop} (h : V_X12_setCar x1 x2 g k post) : MetV l yX12_setCar cX12_setCar 3 RM_X12_setCar D (ty4 cI cC cZ cJ) (wM ad cI cC cZ cJ g k) [.ref (ad 0), .int x1, .int x2] (fun u : St × StL => (wM ad cI cC cZ cJ u.1 u.2)) (fun u : St × StL => post u.1 u.2) := by
  refine mkV (by decide) (Nat.le_of_ble_eq_true rfl) ?_
  intro p e s m args below meth c A ls hC hr hlk hw hl
  have hx := hC.1
  have hb := hC.2.1
  have hl : lv_has ls 3 [(0, .ref (ad 0)), (1, .int x1), (2, .int x2)] := hl
  unfold V_X12_setCar at h
  refine lv_iload_n hx hb dX12_setCar_0 rfl (lv_at hl 1 rfl) ?_
  refine cSI ksX12_180 hC (m_X12_load l x1 h) rfl rfl ⟨by decide, by decide⟩ rfl hl.1 (Nat.le_of_ble_eq_true rfl) dX12_setCar_1 ⟨Nat.zero_le _, Nat.zero_le _⟩ rfl ?_
  intro r_1 h
  refine lv_sipush (v := (2000 : Int32)) hx hb dX12_setCar_4 (by decide) ?_
  refine lv_icmp_ge (tgt := 23) hx hb dX12_setCar_7 (by decide) (fun c_2 => ?_) (fun c_2 => ?_)
  · have h := h.1 c_2
    refine lv_aload_n hx hb dX12_setCar_23 rfl (lv_at hl 0 rfl) ?_
    refine gt (v := .ref (ad 12)) kfX12_107 0 hC hw rfl rfl dX12_setCar_24 ?_
    refine lv_bipush (v := (8 : Int32)) hx hb dX12_setCar_27 (by decide) ?_
    refine lv_iload_n hx hb dX12_setCar_29 rfl (lv_at hl 1 rfl) ?_
    refine cSI ksX12_180 hC (m_X12_load l x1 h) rfl rfl ⟨by decide, by decide⟩ rfl hl.1 (Nat.le_of_ble_eq_true rfl) dX12_setCar_30 ⟨Nat.zero_le _, Nat.zero_le _⟩ rfl ?_
    intro r_3 h
    refine lv_sipush (v := (2000 : Int32)) hx hb dX12_setCar_33 (by decide) ?_
    refine lv_isub hx hb dX12_setCar_36 ?_
    refine lv_imul hx hb dX12_setCar_37 ?_
    refine lv_iload_n hx hb dX12_setCar_38 rfl (lv_at hl 2 rfl) ?_
    refine swM_12 h.1 hC hw dX12_setCar_39 (fun H locs g_4 eg_4 hw => ?_)
    have h := h.2 g_4 eg_4
    exact rtV (wf := (fun u : St × StL => (wM ad cI cC cZ cJ u.1 u.2))) (g_4, k) hC hr hlk hw h dX12_setCar_40
  · have h := h.2 c_2
    refine lv_aload_n hx hb dX12_setCar_10 rfl (lv_at hl 0 rfl) ?_
    refine gt (v := .ref (ad 8)) kfX12_95 0 hC hw rfl rfl dX12_setCar_11 ?_
    refine lv_iload_n hx hb dX12_setCar_14 rfl (lv_at hl 1 rfl) ?_
    refine cSI ksX12_180 hC (m_X12_load l x1 h) rfl rfl ⟨by decide, by decide⟩ rfl hl.1 (Nat.le_of_ble_eq_true rfl) dX12_setCar_15 ⟨Nat.zero_le _, Nat.zero_le _⟩ rfl ?_
    intro r_5 h
    refine lv_iload_n hx hb dX12_setCar_18 rfl (lv_at hl 2 rfl) ?_
    refine swM_8 h.1 hC hw dX12_setCar_19 (fun H locs g_6 eg_6 hw => ?_)
    have h := h.2 g_6 eg_6
    refine lv_goto (tgt := 40) hx hb dX12_setCar_20 (by decide) ?_
    exact rtV (wf := (fun u : St × StL => (wM ad cI cC cZ cJ u.1 u.2))) (g_6, k) hC hr hlk hw h dX12_setCar_40
def V_X12_setCdr (x1 : Int32) (x2 : Int32) (g : St) (k : StL) (post : St → StL → Prop) : Prop := V_X12_load x1 (fun r_1 => (((2000 : Int32) ≤ r_1 → V_X12_load x1 (fun r_3 => (vp_in (((8 : Int32) * (r_3 - (2000 : Int32))) + (1 : Int32)) 1344 ∧ ∀ g_4 : St, g_4 = up g 10 (((8 : Int32) * (r_3 - (2000 : Int32))) + (1 : Int32)).toNatClampNeg x2 → post g_4 k))) ∧ (¬ (2000 : Int32) ≤ r_1 → V_X12_load x1 (fun r_5 => (vp_in r_5 1100 ∧ ∀ g_6 : St, g_6 = up g 7 r_5.toNatClampNeg x2 → post g_6 k)))))
abbrev RM_X12_setCdr : Room := { frames := 1, cells := 0, slots := 0, locals := 20 }
set_option maxHeartbeats 4000000 in
set_option maxRecDepth 100000 in
theorem m_X12_setCdr (l : Launch) (D : va_G) (cI cC cZ cJ : ClassId) (ad : Nat → Nat) (x1 : Int32) (x2 : Int32) (g : St) (k : StL) {post : St → StL → Prop} (h : V_X12_setCdr x1 x2 g k post) : MetV l yX12_setCdr cX12_setCdr 3 RM_X12_setCdr D (ty4 cI cC cZ cJ) (wM ad cI cC cZ cJ g k) [.ref (ad 0), .int x1, .int x2] (fun u : St × StL => (wM ad cI cC cZ cJ u.1 u.2)) (fun u : St × StL => post u.1 u.2) := by
  refine mkV (by decide) (Nat.le_of_ble_eq_true rfl) ?_
  intro p e s m args below meth c A ls hC hr hlk hw hl
  have hx := hC.1
  have hb := hC.2.1
  have hl : lv_has ls 3 [(0, .ref (ad 0)), (1, .int x1), (2, .int x2)] := hl
  unfold V_X12_setCdr at h
  refine lv_iload_n hx hb dX12_setCdr_0 rfl (lv_at hl 1 rfl) ?_
  refine cSI ksX12_180 hC (m_X12_load l x1 h) rfl rfl ⟨by decide, by decide⟩ rfl hl.1 (Nat.le_of_ble_eq_true rfl) dX12_setCdr_1 ⟨Nat.zero_le _, Nat.zero_le _⟩ rfl ?_
  intro r_1 h
  refine lv_sipush (v := (2000 : Int32)) hx hb dX12_setCdr_4 (by decide) ?_
  refine lv_icmp_ge (tgt := 23) hx hb dX12_setCdr_7 (by decide) (fun c_2 => ?_) (fun c_2 => ?_)
  · have h := h.1 c_2
    refine lv_aload_n hx hb dX12_setCdr_23 rfl (lv_at hl 0 rfl) ?_
    refine gt (v := .ref (ad 12)) kfX12_107 0 hC hw rfl rfl dX12_setCdr_24 ?_
    refine lv_bipush (v := (8 : Int32)) hx hb dX12_setCdr_27 (by decide) ?_
    refine lv_iload_n hx hb dX12_setCdr_29 rfl (lv_at hl 1 rfl) ?_
    refine cSI ksX12_180 hC (m_X12_load l x1 h) rfl rfl ⟨by decide, by decide⟩ rfl hl.1 (Nat.le_of_ble_eq_true rfl) dX12_setCdr_30 ⟨Nat.zero_le _, Nat.zero_le _⟩ rfl ?_
    intro r_3 h
    refine lv_sipush (v := (2000 : Int32)) hx hb dX12_setCdr_33 (by decide) ?_
    refine lv_isub hx hb dX12_setCdr_36 ?_
    refine lv_imul hx hb dX12_setCdr_37 ?_
    refine lv_iconst (v := (1 : Int32)) hx hb dX12_setCdr_38 (by decide) ?_
    refine lv_iadd hx hb dX12_setCdr_39 ?_
    refine lv_iload_n hx hb dX12_setCdr_40 rfl (lv_at hl 2 rfl) ?_
    refine swM_12 h.1 hC hw dX12_setCdr_41 (fun H locs g_4 eg_4 hw => ?_)
    have h := h.2 g_4 eg_4
    exact rtV (wf := (fun u : St × StL => (wM ad cI cC cZ cJ u.1 u.2))) (g_4, k) hC hr hlk hw h dX12_setCdr_42
  · have h := h.2 c_2
    refine lv_aload_n hx hb dX12_setCdr_10 rfl (lv_at hl 0 rfl) ?_
    refine gt (v := .ref (ad 9)) kfX12_98 0 hC hw rfl rfl dX12_setCdr_11 ?_
    refine lv_iload_n hx hb dX12_setCdr_14 rfl (lv_at hl 1 rfl) ?_
    refine cSI ksX12_180 hC (m_X12_load l x1 h) rfl rfl ⟨by decide, by decide⟩ rfl hl.1 (Nat.le_of_ble_eq_true rfl) dX12_setCdr_15 ⟨Nat.zero_le _, Nat.zero_le _⟩ rfl ?_
    intro r_5 h
    refine lv_iload_n hx hb dX12_setCdr_18 rfl (lv_at hl 2 rfl) ?_
    refine swM_9 h.1 hC hw dX12_setCdr_19 (fun H locs g_6 eg_6 hw => ?_)
    have h := h.2 g_6 eg_6
    refine lv_goto (tgt := 42) hx hb dX12_setCdr_20 (by decide) ?_
    exact rtV (wf := (fun u : St × StL => (wM ad cI cC cZ cJ u.1 u.2))) (g_6, k) hC hr hlk hw h dX12_setCdr_42
def V_X12_symbolOf_63 (post : Int32 → St → StL → Prop) : Nat → Int64 → Int32 → St → StL → Prop
  | 0, _, _, _, _ => False
  | n + 1, x1, x3, g, k => (((31 : Int32) ≤ x3 → ∀ g_2 : St, g_2 = us g 2 ((g 0 2) + (1 : Int32)) → post ((g_2 0 2) - (1 : Int32)) g_2 k) ∧ (¬ (31 : Int32) ≤ x3 → (vp_in x3 31 ∧ ((¬ (lg_cmp (k 2 x3.toNatClampNeg) x1) = 0 → ∀ x_4 : Int32, x_4 = x3 + (1 : Int32) → V_X12_symbolOf_63 post n x1 x_4 g k) ∧ ((lg_cmp (k 2 x3.toNatClampNeg) x1) = 0 → (vp_in (g 0 2) 40 ∧ ∀ g_5 : St, g_5 = up g 1 (g 0 2).toNatClampNeg x3 → ∀ x_6 : Int32, x_6 = x3 + (1 : Int32) → V_X12_symbolOf_63 post n x1 x_6 g_5 k))))))
def V_X12_symbolOf_2 (post : Int32 → St → StL → Prop) : Nat → Int64 → Int32 → St → StL → Prop
  | 0, _, _, _, _ => False
  | n + 1, x1, x3, g, k => (((g 0 2) ≤ x3 → ((¬ (g 0 2) = (40 : Int32) → (vp_in (g 0 2) 40 ∧ ∀ g_9 : StL, g_9 = upL k 1 (g 0 2).toNatClampNeg x1 → (vp_in (g 0 2) 40 ∧ ∀ g_10 : St, g_10 = up g 1 (g 0 2).toNatClampNeg (31 : Int32) → ∀ x_11 : Int32, x_11 = (0 : Int32) → V_X12_symbolOf_63 post n x1 x_11 g_10 g_9))) ∧ ((g 0 2) = (40 : Int32) → post (-1 : Int32) g k))) ∧ (¬ (g 0 2) ≤ x3 → (vp_in x3 40 ∧ ((¬ (lg_cmp (k 1 x3.toNatClampNeg) x1) = 0 → ∀ x_13 : Int32, x_13 = x3 + (1 : Int32) → V_X12_symbolOf_2 post n x1 x_13 g k) ∧ ((lg_cmp (k 1 x3.toNatClampNeg) x1) = 0 → post x3 g k)))))
def V_X12_symbolOf (n : Nat) (x1 : Int64) (g : St) (k : StL) (post : Int32 → St → StL → Prop) : Prop := ∀ x_14 : Int32, x_14 = (0 : Int32) → V_X12_symbolOf_2 post n x1 x_14 g k
abbrev RM_X12_symbolOf : Room := { frames := 0, cells := 0, slots := 0, locals := 0 }
set_option maxHeartbeats 4000000 in
set_option maxRecDepth 100000 in
theorem m_X12_symbolOf (l : Launch) (D : va_G) (cI cC cZ cJ : ClassId) (ad : Nat → Nat) (n : Nat) (x1 : Int64) (g : St) (k : StL) {post : Int32 → St → StL → Prop} (h : V_X12_symbolOf n x1 g k post) : MetI l yX12_symbolOf cX12_symbolOf 4 .int RM_X12_symbolOf D (ty4 cI cC cZ cJ) (wM ad cI cC cZ cJ g k) [.ref (ad 0), .long x1] (fun u : St × StL => (wM ad cI cC cZ cJ u.1 u.2)) (fun (r : Int32) (u : St × StL) => post r u.1 u.2) := by
  refine mkI (by decide) (Nat.le_of_ble_eq_true rfl) ?_
  intro p e s m args below meth c A ls hC hr hlk hw hl
  have hx := hC.1
  have hb := hC.2.1
  have hl : lv_has ls 4 [(0, .ref (ad 0)), (1, .long x1)] := hl
  have w_63 : ∀ (n : Nat) (x1 : Int64) (x3 : Int32) (g : St) (k : StL) (H : Heap) (locs : List Loc) (ls : Array Slot), V_X12_symbolOf_63 post n x1 x3 g k → Wd D (ty4 cI cC cZ cJ) A s (wM ad cI cC cZ cJ g k) H locs → lv_has ls 4 [(0, .ref (ad 0)), (1, .long x1), (3, .int x3)] → W p l e RM_X12_symbolOf s m args below meth c H locs 0 0 (QI below D (ty4 cI cC cZ cJ) A args s (fun u : St × StL => (wM ad cI cC cZ cJ u.1 u.2)) (fun (r : Int32) (u : St × StL) => post r u.1 u.2)) (F0 m 63 ls []) := by
    intro n
    induction n with
    | zero =>
      intro x1 x3 g k H locs ls h
      exact False.elim h
    | succ n ih =>
      intro x1 x3 g k H locs ls h hw hl
      rw [V_X12_symbolOf_63] at h
      refine lv_iload_n hx hb dX12_symbolOf_63 rfl (lv_at hl 2 rfl) ?_
      refine lv_bipush (v := (31 : Int32)) hx hb dX12_symbolOf_64 (by decide) ?_
      refine lv_icmp_ge (tgt := 96) hx hb dX12_symbolOf_66 (by decide) (fun c_1 => ?_) (fun c_1 => ?_)
      · have h := h.1 c_1
        refine lv_aload_n hx hb dX12_symbolOf_96 rfl (lv_at hl 0 rfl) ?_
        refine lv_dup hx hb dX12_symbolOf_97 rfl ?_
        refine gt (v := .int (g 0 2)) kfX12_185 0 hC hw rfl rfl dX12_symbolOf_98 ?_
        refine lv_iconst (v := (1 : Int32)) hx hb dX12_symbolOf_101 (by decide) ?_
        refine lv_iadd hx hb dX12_symbolOf_102 ?_
        refine pwM_6 kpX12_185 hC hw dX12_symbolOf_103 (fun H locs g_2 eg_2 hw => ?_)
        have h := h g_2 eg_2
        refine lv_aload_n hx hb dX12_symbolOf_106 rfl (lv_at hl 0 rfl) ?_
        refine gt (v := .int (g_2 0 2)) kfX12_185 0 hC hw rfl rfl dX12_symbolOf_107 ?_
        refine lv_iconst (v := (1 : Int32)) hx hb dX12_symbolOf_110 (by decide) ?_
        refine lv_isub hx hb dX12_symbolOf_111 ?_
        exact rtI (wf := (fun u : St × StL => (wM ad cI cC cZ cJ u.1 u.2))) (g_2, k) hC hr hlk hw rfl h dX12_symbolOf_112
      · have h := h.2 c_1
        refine lv_aload_n hx hb dX12_symbolOf_69 rfl (lv_at hl 0 rfl) ?_
        refine gt (v := .ref (ad 5)) kfX12_86 0 hC hw rfl rfl dX12_symbolOf_70 ?_
        refine lv_iload_n hx hb dX12_symbolOf_73 rfl (lv_at hl 2 rfl) ?_
        refine ldJ 5 3 hC hw rfl rfl h.1 dX12_symbolOf_74 ?_
        have h := h.2
        refine lv_lload_n hx hb dX12_symbolOf_75 rfl (lv_at hl 1 rfl) ?_
        refine W.lcmp hx hb dX12_symbolOf_76 ?_
        refine lv_if_ne (tgt := 90) hx hb dX12_symbolOf_77 (by decide) (fun c_3 => ?_) (fun c_3 => ?_)
        · have h := h.1 c_3
          obtain ⟨x_4, ex_4⟩ : ∃ y : Int32, y = x3 + (1 : Int32) := ⟨_, rfl⟩
          have h := h x_4 ex_4
          refine lv_iinc (v := x_4) (lv' := [(3, .int x_4), (0, .ref (ad 0)), (1, .long x1)]) hx hb dX12_symbolOf_90 hl (k := 2) rfl (by rw [ex_4]; rfl) (by decide) rfl (fun ls hl => ?_)
          refine lv_goto (tgt := 63) hx hb dX12_symbolOf_93 (by decide) ?_
          exact ih x1 x_4 g k _ _ _ h hw (lv_sub hl [1, 2, 0] rfl)
        · have h := h.2 c_3
          refine lv_aload_n hx hb dX12_symbolOf_80 rfl (lv_at hl 0 rfl) ?_
          refine gt (v := .ref (ad 2)) kfX12_13 0 hC hw rfl rfl dX12_symbolOf_81 ?_
          refine lv_aload_n hx hb dX12_symbolOf_84 rfl (lv_at hl 0 rfl) ?_
          refine gt (v := .int (g 0 2)) kfX12_185 0 hC hw rfl rfl dX12_symbolOf_85 ?_
          refine lv_iload_n hx hb dX12_symbolOf_88 rfl (lv_at hl 2 rfl) ?_
          refine swM_2 h.1 hC hw dX12_symbolOf_89 (fun H locs g_5 eg_5 hw => ?_)
          have h := h.2 g_5 eg_5
          obtain ⟨x_6, ex_6⟩ : ∃ y : Int32, y = x3 + (1 : Int32) := ⟨_, rfl⟩
          have h := h x_6 ex_6
          refine lv_iinc (v := x_6) (lv' := [(3, .int x_6), (0, .ref (ad 0)), (1, .long x1)]) hx hb dX12_symbolOf_90 hl (k := 2) rfl (by rw [ex_6]; rfl) (by decide) rfl (fun ls hl => ?_)
          refine lv_goto (tgt := 63) hx hb dX12_symbolOf_93 (by decide) ?_
          exact ih x1 x_6 g_5 k _ _ _ h hw (lv_sub hl [1, 2, 0] rfl)
  have w_2 : ∀ (n : Nat) (x1 : Int64) (x3 : Int32) (g : St) (k : StL) (H : Heap) (locs : List Loc) (ls : Array Slot), V_X12_symbolOf_2 post n x1 x3 g k → Wd D (ty4 cI cC cZ cJ) A s (wM ad cI cC cZ cJ g k) H locs → lv_has ls 4 [(0, .ref (ad 0)), (1, .long x1), (3, .int x3)] → W p l e RM_X12_symbolOf s m args below meth c H locs 0 0 (QI below D (ty4 cI cC cZ cJ) A args s (fun u : St × StL => (wM ad cI cC cZ cJ u.1 u.2)) (fun (r : Int32) (u : St × StL) => post r u.1 u.2)) (F0 m 2 ls []) := by
    intro n
    induction n with
    | zero =>
      intro x1 x3 g k H locs ls h
      exact False.elim h
    | succ n ih =>
      intro x1 x3 g k H locs ls h hw hl
      rw [V_X12_symbolOf_2] at h
      refine lv_iload_n hx hb dX12_symbolOf_2 rfl (lv_at hl 2 rfl) ?_
      refine lv_aload_n hx hb dX12_symbolOf_3 rfl (lv_at hl 0 rfl) ?_
      refine gt (v := .int (g 0 2)) kfX12_185 0 hC hw rfl rfl dX12_symbolOf_4 ?_
      refine lv_icmp_ge (tgt := 29) hx hb dX12_symbolOf_7 (by decide) (fun c_7 => ?_) (fun c_7 => ?_)
      · have h := h.1 c_7
        refine lv_aload_n hx hb dX12_symbolOf_29 rfl (lv_at hl 0 rfl) ?_
        refine gt (v := .int (g 0 2)) kfX12_185 0 hC hw rfl rfl dX12_symbolOf_30 ?_
        refine lv_bipush (v := (40 : Int32)) hx hb dX12_symbolOf_33 (by decide) ?_
        refine lv_icmp_ne (tgt := 40) hx hb dX12_symbolOf_35 (by decide) (fun c_8 => ?_) (fun c_8 => ?_)
        · have h := h.1 c_8
          refine lv_aload_n hx hb dX12_symbolOf_40 rfl (lv_at hl 0 rfl) ?_
          refine gt (v := .ref (ad 1)) kfX12_7 0 hC hw rfl rfl dX12_symbolOf_41 ?_
          refine lv_aload_n hx hb dX12_symbolOf_44 rfl (lv_at hl 0 rfl) ?_
          refine gt (v := .int (g 0 2)) kfX12_185 0 hC hw rfl rfl dX12_symbolOf_45 ?_
          refine lv_lload_n hx hb dX12_symbolOf_48 rfl (lv_at hl 1 rfl) ?_
          refine swM_1 h.1 hC hw dX12_symbolOf_49 (fun H locs g_9 eg_9 hw => ?_)
          have h := h.2 g_9 eg_9
          refine lv_aload_n hx hb dX12_symbolOf_50 rfl (lv_at hl 0 rfl) ?_
          refine gt (v := .ref (ad 2)) kfX12_13 0 hC hw rfl rfl dX12_symbolOf_51 ?_
          refine lv_aload_n hx hb dX12_symbolOf_54 rfl (lv_at hl 0 rfl) ?_
          refine gt (v := .int (g 0 2)) kfX12_185 0 hC hw rfl rfl dX12_symbolOf_55 ?_
          refine lv_bipush (v := (31 : Int32)) hx hb dX12_symbolOf_58 (by decide) ?_
          refine swM_2 h.1 hC hw dX12_symbolOf_60 (fun H locs g_10 eg_10 hw => ?_)
          have h := h.2 g_10 eg_10
          refine lv_iconst (v := (0 : Int32)) hx hb dX12_symbolOf_61 (by decide) ?_
          refine lv_topi (fun x_11 ex_11 => ?_)
          have h := h x_11 ex_11
          refine lv_istore_n (lv' := [(3, .int x_11), (0, .ref (ad 0)), (1, .long x1)]) hx hb dX12_symbolOf_62 rfl hl (by decide) rfl (fun ls hl => ?_)
          exact w_63 n x1 x_11 g_10 g_9 _ _ _ h hw (lv_sub hl [1, 2, 0] rfl)
        · have h := h.2 c_8
          refine lv_iconst (v := (-1 : Int32)) hx hb dX12_symbolOf_38 (by decide) ?_
          exact rtI (wf := (fun u : St × StL => (wM ad cI cC cZ cJ u.1 u.2))) (g, k) hC hr hlk hw rfl h dX12_symbolOf_39
      · have h := h.2 c_7
        refine lv_aload_n hx hb dX12_symbolOf_10 rfl (lv_at hl 0 rfl) ?_
        refine gt (v := .ref (ad 1)) kfX12_7 0 hC hw rfl rfl dX12_symbolOf_11 ?_
        refine lv_iload_n hx hb dX12_symbolOf_14 rfl (lv_at hl 2 rfl) ?_
        refine ldJ 1 3 hC hw rfl rfl h.1 dX12_symbolOf_15 ?_
        have h := h.2
        refine lv_lload_n hx hb dX12_symbolOf_16 rfl (lv_at hl 1 rfl) ?_
        refine W.lcmp hx hb dX12_symbolOf_17 ?_
        refine lv_if_ne (tgt := 23) hx hb dX12_symbolOf_18 (by decide) (fun c_12 => ?_) (fun c_12 => ?_)
        · have h := h.1 c_12
          obtain ⟨x_13, ex_13⟩ : ∃ y : Int32, y = x3 + (1 : Int32) := ⟨_, rfl⟩
          have h := h x_13 ex_13
          refine lv_iinc (v := x_13) (lv' := [(3, .int x_13), (0, .ref (ad 0)), (1, .long x1)]) hx hb dX12_symbolOf_23 hl (k := 2) rfl (by rw [ex_13]; rfl) (by decide) rfl (fun ls hl => ?_)
          refine lv_goto (tgt := 2) hx hb dX12_symbolOf_26 (by decide) ?_
          exact ih x1 x_13 g k _ _ _ h hw (lv_sub hl [1, 2, 0] rfl)
        · have h := h.2 c_12
          refine lv_iload_n hx hb dX12_symbolOf_21 rfl (lv_at hl 2 rfl) ?_
          exact rtI (wf := (fun u : St × StL => (wM ad cI cC cZ cJ u.1 u.2))) (g, k) hC hr hlk hw rfl h dX12_symbolOf_22
  unfold V_X12_symbolOf at h
  refine lv_iconst (v := (0 : Int32)) hx hb dX12_symbolOf_0 (by decide) ?_
  refine lv_topi (fun x_14 ex_14 => ?_)
  have h := h x_14 ex_14
  refine lv_istore_n (lv' := [(3, .int x_14), (0, .ref (ad 0)), (1, .long x1)]) hx hb dX12_symbolOf_1 rfl hl (by decide) rfl (fun ls hl => ?_)
  exact w_2 n x1 x_14 g k _ _ _ h hw (lv_sub hl [1, 2, 0] rfl)
def V_X12_cell (x1 : Int32) (x2 : Int32) (g : St) (k : StL) (post : Int32 → St → StL → Prop) : Prop := (vp_in (g 0 3) 1100 ∧ ∀ g_1 : St, g_1 = up g 6 (g 0 3).toNatClampNeg x1 → (vp_in (g_1 0 3) 1100 ∧ ∀ g_2 : St, g_2 = up g_1 7 (g_1 0 3).toNatClampNeg x2 → ∀ g_3 : St, g_3 = us g_2 3 ((g_2 0 3) + (1 : Int32)) → V_X12_code (4 : Int32) ((g_3 0 3) - (1 : Int32)) (fun r_4 => post r_4 g_3 k)))
abbrev RM_X12_cell : Room := { frames := 1, cells := 0, slots := 0, locals := 21 }
set_option maxHeartbeats 4000000 in
set_option maxRecDepth 100000 in
theorem m_X12_cell (l : Launch) (D : va_G) (cI cC cZ cJ : ClassId) (ad : Nat → Nat) (x1 : Int32) (x2 : Int32) (g : St) (k : StL) {post : Int32 → St → StL → Prop} (h : V_X12_cell x1 x2 g k post) : MetI l yX12_cell cX12_cell 3 .int RM_X12_cell D (ty4 cI cC cZ cJ) (wM ad cI cC cZ cJ g k) [.ref (ad 0), .int x1, .int x2] (fun u : St × StL => (wM ad cI cC cZ cJ u.1 u.2)) (fun (r : Int32) (u : St × StL) => post r u.1 u.2) := by
  refine mkI (by decide) (Nat.le_of_ble_eq_true rfl) ?_
  intro p e s m args below meth c A ls hC hr hlk hw hl
  have hx := hC.1
  have hb := hC.2.1
  have hl : lv_has ls 3 [(0, .ref (ad 0)), (1, .int x1), (2, .int x2)] := hl
  unfold V_X12_cell at h
  refine lv_aload_n hx hb dX12_cell_0 rfl (lv_at hl 0 rfl) ?_
  refine gt (v := .ref (ad 8)) kfX12_95 0 hC hw rfl rfl dX12_cell_1 ?_
  refine lv_aload_n hx hb dX12_cell_4 rfl (lv_at hl 0 rfl) ?_
  refine gt (v := .int (g 0 3)) kfX12_188 0 hC hw rfl rfl dX12_cell_5 ?_
  refine lv_iload_n hx hb dX12_cell_8 rfl (lv_at hl 1 rfl) ?_
  refine swM_8 h.1 hC hw dX12_cell_9 (fun H locs g_1 eg_1 hw => ?_)
  have h := h.2 g_1 eg_1
  refine lv_aload_n hx hb dX12_cell_10 rfl (lv_at hl 0 rfl) ?_
  refine gt (v := .ref (ad 9)) kfX12_98 0 hC hw rfl rfl dX12_cell_11 ?_
  refine lv_aload_n hx hb dX12_cell_14 rfl (lv_at hl 0 rfl) ?_
  refine gt (v := .int (g_1 0 3)) kfX12_188 0 hC hw rfl rfl dX12_cell_15 ?_
  refine lv_iload_n hx hb dX12_cell_18 rfl (lv_at hl 2 rfl) ?_
  refine swM_9 h.1 hC hw dX12_cell_19 (fun H locs g_2 eg_2 hw => ?_)
  have h := h.2 g_2 eg_2
  refine lv_aload_n hx hb dX12_cell_20 rfl (lv_at hl 0 rfl) ?_
  refine lv_dup hx hb dX12_cell_21 rfl ?_
  refine gt (v := .int (g_2 0 3)) kfX12_188 0 hC hw rfl rfl dX12_cell_22 ?_
  refine lv_iconst (v := (1 : Int32)) hx hb dX12_cell_25 (by decide) ?_
  refine lv_iadd hx hb dX12_cell_26 ?_
  refine pwM_12 kpX12_188 hC hw dX12_cell_27 (fun H locs g_3 eg_3 hw => ?_)
  have h := h g_3 eg_3
  refine lv_iconst (v := (4 : Int32)) hx hb dX12_cell_30 (by decide) ?_
  refine lv_aload_n hx hb dX12_cell_31 rfl (lv_at hl 0 rfl) ?_
  refine gt (v := .int (g_3 0 3)) kfX12_188 0 hC hw rfl rfl dX12_cell_32 ?_
  refine lv_iconst (v := (1 : Int32)) hx hb dX12_cell_35 (by decide) ?_
  refine lv_isub hx hb dX12_cell_36 ?_
  refine cSI ksX12_171 hC (m_X12_code l (4 : Int32) ((g_3 0 3) - (1 : Int32)) h) rfl rfl ⟨by decide, by decide⟩ rfl hl.1 (Nat.le_of_ble_eq_true rfl) dX12_cell_37 ⟨Nat.zero_le _, Nat.zero_le _⟩ rfl ?_
  intro r_4 h
  exact rtI (wf := (fun u : St × StL => (wM ad cI cC cZ cJ u.1 u.2))) (g_3, k) hC hr hlk hw rfl h dX12_cell_40
def V_X12_add_55 (post : St → StL → Prop) (n : Nat) (x2 : Int32) (g : St) (k : StL) : Prop := V_X12_cell x2 (1048576 : Int32) g k (fun r_3 g_1 k_2 => (vp_in ((g_1 0 7) - (1 : Int32)) 13 ∧ ((¬ (g_1 13 ((g_1 0 7) - (1 : Int32)).toNatClampNeg) = (1048576 : Int32) → (vp_in ((g_1 0 7) - (1 : Int32)) 13 ∧ V_X12_setCdr (g_1 14 ((g_1 0 7) - (1 : Int32)).toNatClampNeg) r_3 g_1 k_2 (fun g_5 k_6 => (vp_in ((g_5 0 7) - (1 : Int32)) 13 ∧ ∀ g_8 : St, g_8 = up g_5 14 ((g_5 0 7) - (1 : Int32)).toNatClampNeg r_3 → post g_8 k_6)))) ∧ ((g_1 13 ((g_1 0 7) - (1 : Int32)).toNatClampNeg) = (1048576 : Int32) → (vp_in ((g_1 0 7) - (1 : Int32)) 13 ∧ ∀ g_9 : St, g_9 = up g_1 13 ((g_1 0 7) - (1 : Int32)).toNatClampNeg r_3 → (vp_in ((g_9 0 7) - (1 : Int32)) 13 ∧ ∀ g_10 : St, g_10 = up g_9 14 ((g_9 0 7) - (1 : Int32)).toNatClampNeg r_3 → post g_10 k_2))))))
def V_X12_add_2 (post : St → StL → Prop) : Nat → Int32 → St → StL → Prop
  | 0, _, _, _ => False
  | n + 1, x2, g, k => (((g 0 7) ≤ 0 → V_X12_add_55 post n x2 g k) ∧ (¬ (g 0 7) ≤ 0 → (vp_in ((g 0 7) - (1 : Int32)) 13 ∧ (((g 12 ((g 0 7) - (1 : Int32)).toNatClampNeg) = 0 → V_X12_add_55 post n x2 g k) ∧ (¬ (g 12 ((g 0 7) - (1 : Int32)).toNatClampNeg) = 0 → V_X12_cell x2 (1048576 : Int32) g k (fun r_15 g_13 k_14 => V_X12_code (3 : Int32) (2 : Int32) (fun r_16 => V_X12_cell r_16 r_15 g_13 k_14 (fun r_19 g_17 k_18 => ∀ g_20 : St, g_20 = us g_17 7 ((g_17 0 7) - (1 : Int32)) → V_X12_add_2 post n r_19 g_20 k_18))))))))
def V_X12_add (n : Nat) (x1 : Int32) (g : St) (k : StL) (post : St → StL → Prop) : Prop := V_X12_add_2 post n x1 g k
abbrev RM_X12_add : Room := { frames := 2, cells := 0, slots := 0, locals := 43 }
set_option maxHeartbeats 4000000 in
set_option maxRecDepth 100000 in
theorem m_X12_add (l : Launch) (D : va_G) (cI cC cZ cJ : ClassId) (ad : Nat → Nat) (n : Nat) (x1 : Int32) (g : St) (k : StL) {post : St → StL → Prop} (h : V_X12_add n x1 g k post) : MetV l yX12_add cX12_add 4 RM_X12_add D (ty4 cI cC cZ cJ) (wM ad cI cC cZ cJ g k) [.ref (ad 0), .int x1] (fun u : St × StL => (wM ad cI cC cZ cJ u.1 u.2)) (fun u : St × StL => post u.1 u.2) := by
  refine mkV (by decide) (Nat.le_of_ble_eq_true rfl) ?_
  intro p e s m args below meth c A ls hC hr hlk hw hl
  have hx := hC.1
  have hb := hC.2.1
  have hl : lv_has ls 4 [(0, .ref (ad 0)), (1, .int x1)] := hl
  have w_55 : ∀ (n : Nat) (x2 : Int32) (g : St) (k : StL) (H : Heap) (locs : List Loc) (ls : Array Slot), V_X12_add_55 post n x2 g k → Wd D (ty4 cI cC cZ cJ) A s (wM ad cI cC cZ cJ g k) H locs → lv_has ls 4 [(0, .ref (ad 0)), (2, .int x2)] → W p l e RM_X12_add s m args below meth c H locs 0 0 (QV below D (ty4 cI cC cZ cJ) A args s (fun u : St × StL => (wM ad cI cC cZ cJ u.1 u.2)) (fun u : St × StL => post u.1 u.2)) (F0 m 55 ls []) := by
    intro n x2 g k H locs ls h hw hl
    unfold V_X12_add_55 at h
    refine lv_aload_n hx hb dX12_add_55 rfl (lv_at hl 0 rfl) ?_
    refine lv_iload_n hx hb dX12_add_56 rfl (lv_at hl 1 rfl) ?_
    refine lv_ldc (v := (1048576 : Int32)) hx hb hC.2.2.2.1 (hC.2.2.2.2 _ (List.mem_cons_of_mem _ kcX12_184)) dX12_add_57 ?_
    refine cVIw (q0 := 0) kmX12_194 hC hw (m_X12_cell l D cI cC cZ cJ ad x2 (1048576 : Int32) g k h) rfl rfl ⟨by decide, by decide⟩ rfl rfl rfl hl.1 (Nat.le_of_ble_eq_true rfl) dX12_add_59 ⟨Nat.zero_le _, Nat.zero_le _⟩ rfl ?_
    intro r_3 u H locs h hw
    obtain ⟨g_1, k_2⟩ := u
    dsimp only at h hw
    refine lv_istore_n (lv' := [(3, .int r_3), (0, .ref (ad 0)), (2, .int x2)]) hx hb dX12_add_62 rfl hl (by decide) rfl (fun ls hl => ?_)
    refine lv_aload_n hx hb dX12_add_63 rfl (lv_at hl 1 rfl) ?_
    refine gt (v := .ref (ad 15)) kfX12_116 0 hC hw rfl rfl dX12_add_64 ?_
    refine lv_aload_n hx hb dX12_add_67 rfl (lv_at hl 1 rfl) ?_
    refine gt (v := .int (g_1 0 7)) kfX12_191 0 hC hw rfl rfl dX12_add_68 ?_
    refine lv_iconst (v := (1 : Int32)) hx hb dX12_add_71 (by decide) ?_
    refine lv_isub hx hb dX12_add_72 ?_
    refine ldI 15 0 hC hw rfl rfl h.1 dX12_add_73 ?_
    have h := h.2
    refine lv_ldc (v := (1048576 : Int32)) hx hb hC.2.2.2.1 (hC.2.2.2.2 _ (List.mem_cons_of_mem _ kcX12_184)) dX12_add_74 ?_
    refine lv_icmp_ne (tgt := 94) hx hb dX12_add_76 (by decide) (fun c_4 => ?_) (fun c_4 => ?_)
    · have h := h.1 c_4
      refine lv_aload_n hx hb dX12_add_94 rfl (lv_at hl 1 rfl) ?_
      refine lv_aload_n hx hb dX12_add_95 rfl (lv_at hl 1 rfl) ?_
      refine gt (v := .ref (ad 16)) kfX12_119 0 hC hw rfl rfl dX12_add_96 ?_
      refine lv_aload_n hx hb dX12_add_99 rfl (lv_at hl 1 rfl) ?_
      refine gt (v := .int (g_1 0 7)) kfX12_191 0 hC hw rfl rfl dX12_add_100 ?_
      refine lv_iconst (v := (1 : Int32)) hx hb dX12_add_103 (by decide) ?_
      refine lv_isub hx hb dX12_add_104 ?_
      refine ldI 16 0 hC hw rfl rfl h.1 dX12_add_105 ?_
      have h := h.2
      refine lv_iload_n hx hb dX12_add_106 rfl (lv_at hl 0 rfl) ?_
      refine cVVw (q0 := 0) kmX12_197 hC hw (m_X12_setCdr l D cI cC cZ cJ ad (g_1 14 ((g_1 0 7) - (1 : Int32)).toNatClampNeg) r_3 g_1 k_2 h) rfl rfl ⟨by decide, by decide⟩ rfl rfl rfl hl.1 (Nat.le_of_ble_eq_true rfl) dX12_add_107 ⟨Nat.zero_le _, Nat.zero_le _⟩ rfl ?_
      intro u H locs h hw
      obtain ⟨g_5, k_6⟩ := u
      dsimp only at h hw
      refine lv_aload_n hx hb dX12_add_110 rfl (lv_at hl 1 rfl) ?_
      refine gt (v := .ref (ad 16)) kfX12_119 0 hC hw rfl rfl dX12_add_111 ?_
      refine lv_aload_n hx hb dX12_add_114 rfl (lv_at hl 1 rfl) ?_
      refine gt (v := .int (g_5 0 7)) kfX12_191 0 hC hw rfl rfl dX12_add_115 ?_
      refine lv_iconst (v := (1 : Int32)) hx hb dX12_add_118 (by decide) ?_
      refine lv_isub hx hb dX12_add_119 ?_
      refine lv_iload_n hx hb dX12_add_120 rfl (lv_at hl 0 rfl) ?_
      refine swM_16 h.1 hC hw dX12_add_121 (fun H locs g_8 eg_8 hw => ?_)
      have h := h.2 g_8 eg_8
      exact rtV (wf := (fun u : St × StL => (wM ad cI cC cZ cJ u.1 u.2))) (g_8, k_6) hC hr hlk hw h dX12_add_122
    · have h := h.2 c_4
      refine lv_aload_n hx hb dX12_add_79 rfl (lv_at hl 1 rfl) ?_
      refine gt (v := .ref (ad 15)) kfX12_116 0 hC hw rfl rfl dX12_add_80 ?_
      refine lv_aload_n hx hb dX12_add_83 rfl (lv_at hl 1 rfl) ?_
      refine gt (v := .int (g_1 0 7)) kfX12_191 0 hC hw rfl rfl dX12_add_84 ?_
      refine lv_iconst (v := (1 : Int32)) hx hb dX12_add_87 (by decide) ?_
      refine lv_isub hx hb dX12_add_88 ?_
      refine lv_iload_n hx hb dX12_add_89 rfl (lv_at hl 0 rfl) ?_
      refine swM_15 h.1 hC hw dX12_add_90 (fun H locs g_9 eg_9 hw => ?_)
      have h := h.2 g_9 eg_9
      refine lv_goto (tgt := 110) hx hb dX12_add_91 (by decide) ?_
      refine lv_aload_n hx hb dX12_add_110 rfl (lv_at hl 1 rfl) ?_
      refine gt (v := .ref (ad 16)) kfX12_119 0 hC hw rfl rfl dX12_add_111 ?_
      refine lv_aload_n hx hb dX12_add_114 rfl (lv_at hl 1 rfl) ?_
      refine gt (v := .int (g_9 0 7)) kfX12_191 0 hC hw rfl rfl dX12_add_115 ?_
      refine lv_iconst (v := (1 : Int32)) hx hb dX12_add_118 (by decide) ?_
      refine lv_isub hx hb dX12_add_119 ?_
      refine lv_iload_n hx hb dX12_add_120 rfl (lv_at hl 0 rfl) ?_
      refine swM_16 h.1 hC hw dX12_add_121 (fun H locs g_10 eg_10 hw => ?_)
      have h := h.2 g_10 eg_10
      exact rtV (wf := (fun u : St × StL => (wM ad cI cC cZ cJ u.1 u.2))) (g_10, k_2) hC hr hlk hw h dX12_add_122
  have w_2 : ∀ (n : Nat) (x2 : Int32) (g : St) (k : StL) (H : Heap) (locs : List Loc) (ls : Array Slot), V_X12_add_2 post n x2 g k → Wd D (ty4 cI cC cZ cJ) A s (wM ad cI cC cZ cJ g k) H locs → lv_has ls 4 [(0, .ref (ad 0)), (2, .int x2)] → W p l e RM_X12_add s m args below meth c H locs 0 0 (QV below D (ty4 cI cC cZ cJ) A args s (fun u : St × StL => (wM ad cI cC cZ cJ u.1 u.2)) (fun u : St × StL => post u.1 u.2)) (F0 m 2 ls []) := by
    intro n
    induction n with
    | zero =>
      intro x2 g k H locs ls h
      exact False.elim h
    | succ n ih =>
      intro x2 g k H locs ls h hw hl
      rw [V_X12_add_2] at h
      refine lv_aload_n hx hb dX12_add_2 rfl (lv_at hl 0 rfl) ?_
      refine gt (v := .int (g 0 7)) kfX12_191 0 hC hw rfl rfl dX12_add_3 ?_
      refine lv_if_le (tgt := 55) hx hb dX12_add_6 (by decide) (fun c_11 => ?_) (fun c_11 => ?_)
      · have h := h.1 c_11
        exact w_55 n x2 g k _ _ _ h hw (lv_sub hl [0, 1] rfl)
      · have h := h.2 c_11
        refine lv_aload_n hx hb dX12_add_9 rfl (lv_at hl 0 rfl) ?_
        refine gt (v := .ref (ad 14)) kfX12_113 0 hC hw rfl rfl dX12_add_10 ?_
        refine lv_aload_n hx hb dX12_add_13 rfl (lv_at hl 0 rfl) ?_
        refine gt (v := .int (g 0 7)) kfX12_191 0 hC hw rfl rfl dX12_add_14 ?_
        refine lv_iconst (v := (1 : Int32)) hx hb dX12_add_17 (by decide) ?_
        refine lv_isub hx hb dX12_add_18 ?_
        refine ldZ 14 2 hC hw rfl rfl h.1 dX12_add_19 ?_
        have h := h.2
        refine lv_if_eq (tgt := 55) hx hb dX12_add_20 (by decide) (fun c_12 => ?_) (fun c_12 => ?_)
        · have h := h.1 c_12
          exact w_55 n x2 g k _ _ _ h hw (lv_sub hl [0, 1] rfl)
        · have h := h.2 c_12
          refine lv_aload_n hx hb dX12_add_23 rfl (lv_at hl 0 rfl) ?_
          refine lv_iload_n hx hb dX12_add_24 rfl (lv_at hl 1 rfl) ?_
          refine lv_ldc (v := (1048576 : Int32)) hx hb hC.2.2.2.1 (hC.2.2.2.2 _ (List.mem_cons_of_mem _ kcX12_184)) dX12_add_25 ?_
          refine cVIw (q0 := 0) kmX12_194 hC hw (m_X12_cell l D cI cC cZ cJ ad x2 (1048576 : Int32) g k h) rfl rfl ⟨by decide, by decide⟩ rfl rfl rfl hl.1 (Nat.le_of_ble_eq_true rfl) dX12_add_27 ⟨Nat.zero_le _, Nat.zero_le _⟩ rfl ?_
          intro r_15 u H locs h hw
          obtain ⟨g_13, k_14⟩ := u
          dsimp only at h hw
          refine lv_istore_n (lv' := [(3, .int r_15), (0, .ref (ad 0)), (2, .int x2)]) hx hb dX12_add_30 rfl hl (by decide) rfl (fun ls hl => ?_)
          refine lv_aload_n hx hb dX12_add_31 rfl (lv_at hl 1 rfl) ?_
          refine lv_iconst (v := (3 : Int32)) hx hb dX12_add_32 (by decide) ?_
          refine lv_iconst (v := (2 : Int32)) hx hb dX12_add_33 (by decide) ?_
          refine cSI ksX12_171 hC (m_X12_code l (3 : Int32) (2 : Int32) h) rfl rfl ⟨by decide, by decide⟩ rfl hl.1 (Nat.le_of_ble_eq_true rfl) dX12_add_34 ⟨Nat.zero_le _, Nat.zero_le _⟩ rfl ?_
          intro r_16 h
          refine lv_iload_n hx hb dX12_add_37 rfl (lv_at hl 0 rfl) ?_
          refine cVIw (q0 := 0) kmX12_194 hC hw (m_X12_cell l D cI cC cZ cJ ad r_16 r_15 g_13 k_14 h) rfl rfl ⟨by decide, by decide⟩ rfl rfl rfl hl.1 (Nat.le_of_ble_eq_true rfl) dX12_add_38 ⟨Nat.zero_le _, Nat.zero_le _⟩ rfl ?_
          intro r_19 u H locs h hw
          obtain ⟨g_17, k_18⟩ := u
          dsimp only at h hw
          refine lv_istore_n (lv' := [(2, .int r_19), (3, .int r_15), (0, .ref (ad 0))]) hx hb dX12_add_41 rfl hl (by decide) rfl (fun ls hl => ?_)
          refine lv_aload_n hx hb dX12_add_42 rfl (lv_at hl 2 rfl) ?_
          refine lv_dup hx hb dX12_add_43 rfl ?_
          refine gt (v := .int (g_17 0 7)) kfX12_191 0 hC hw rfl rfl dX12_add_44 ?_
          refine lv_iconst (v := (1 : Int32)) hx hb dX12_add_47 (by decide) ?_
          refine lv_isub hx hb dX12_add_48 ?_
          refine pwM_23 kpX12_191 hC hw dX12_add_49 (fun H locs g_20 eg_20 hw => ?_)
          have h := h g_20 eg_20
          refine lv_goto (tgt := 2) hx hb dX12_add_52 (by decide) ?_
          exact ih r_19 g_20 k_18 _ _ _ h hw (lv_sub hl [2, 0] rfl)
  unfold V_X12_add at h
  refine lv_iload_n hx hb dX12_add_0 rfl (lv_at hl 1 rfl) ?_
  refine lv_istore_n (lv' := [(2, .int x1), (0, .ref (ad 0)), (1, .int x1)]) hx hb dX12_add_1 rfl hl (by decide) rfl (fun ls hl => ?_)
  exact w_2 n x1 g k _ _ _ h hw (lv_sub hl [1, 0] rfl)
def V_X12_endAtom_88 (post : Int32 → St → StL → Prop) (n : Nat) (x1 : Int32) (g : St) (k : StL) : Prop := ((x1 ≤ (5 : Int32) → ((¬ (lg_cmp (k 0 0) (1815788 : Int64)) = 0 → V_X12_symbolOf n (k 0 0) g k (fun r_5 g_3 k_4 => ((0 ≤ r_5 → V_X12_code (3 : Int32) r_5 (fun r_7 => V_X12_add n r_7 g_3 k_4 (fun g_8 k_9 => post (1 : Int32) g_8 k_9))) ∧ (¬ 0 ≤ r_5 → post (0 : Int32) g_3 k_4)))) ∧ ((lg_cmp (k 0 0) (1815788 : Int64)) = 0 → V_X12_add n (1048576 : Int32) g k (fun g_11 k_12 => post (1 : Int32) g_11 k_12)))) ∧ (¬ x1 ≤ (5 : Int32) → post (0 : Int32) g k))
def V_X12_endAtom_61 (post : Int32 → St → StL → Prop) (n : Nat) (y0 : Int32) (g : St) (k : StL) : Prop := ((y0 < (-32768 : Int32) → post (0 : Int32) g k) ∧ (¬ y0 < (-32768 : Int32) → ((y0 ≤ (32767 : Int32) → V_X12_numeral y0 (fun r_16 => V_X12_add n r_16 g k (fun g_17 k_18 => post (1 : Int32) g_17 k_18))) ∧ (¬ y0 ≤ (32767 : Int32) → post (0 : Int32) g k))))
def V_X12_endAtom (n : Nat) (g : St) (k : StL) (post : Int32 → St → StL → Prop) : Prop := ((¬ (g 0 8) = 0 → ∀ x_21 : Int32, x_21 = (g 0 8) → ∀ g_22 : St, g_22 = us g 8 (0 : Int32) → (((g_22 0 9) = 0 → V_X12_endAtom_88 post n x_21 g_22 k) ∧ (¬ (g_22 0 9) = 0 → (((g_22 0 10) = 0 → ((x_21 ≤ (0 : Int32) → V_X12_endAtom_88 post n x_21 g_22 k) ∧ (¬ x_21 ≤ (0 : Int32) → (((g_22 0 10) = 0 → V_X12_endAtom_61 post n (g_22 0 11) g_22 k) ∧ (¬ (g_22 0 10) = 0 → V_X12_endAtom_61 post n (-(g_22 0 11)) g_22 k))))) ∧ (¬ (g_22 0 10) = 0 → ((x_21 ≤ (1 : Int32) → V_X12_endAtom_88 post n x_21 g_22 k) ∧ (¬ x_21 ≤ (1 : Int32) → (((g_22 0 10) = 0 → V_X12_endAtom_61 post n (g_22 0 11) g_22 k) ∧ (¬ (g_22 0 10) = 0 → V_X12_endAtom_61 post n (-(g_22 0 11)) g_22 k))))))))) ∧ ((g 0 8) = 0 → post (1 : Int32) g k))
abbrev RM_X12_endAtom : Room := { frames := 3, cells := 0, slots := 0, locals := 66 }
set_option maxHeartbeats 4000000 in
set_option maxRecDepth 100000 in
theorem m_X12_endAtom (l : Launch) (D : va_G) (cI cC cZ cJ : ClassId) (ad : Nat → Nat) (n : Nat) (g : St) (k : StL) {post : Int32 → St → StL → Prop} (h : V_X12_endAtom n g k post) : MetI l yX12_endAtom cX12_endAtom 3 .boolean RM_X12_endAtom D (ty4 cI cC cZ cJ) (wM ad cI cC cZ cJ g k) [.ref (ad 0)] (fun u : St × StL => (wM ad cI cC cZ cJ u.1 u.2)) (fun (r : Int32) (u : St × StL) => post r u.1 u.2) := by
  refine mkI (by decide) (Nat.le_of_ble_eq_true rfl) ?_
  intro p e s m args below meth c A ls hC hr hlk hw hl
  have hx := hC.1
  have hb := hC.2.1
  have hl : lv_has ls 3 [(0, .ref (ad 0))] := hl
  have w_88 : ∀ (n : Nat) (x1 : Int32) (g : St) (k : StL) (H : Heap) (locs : List Loc) (ls : Array Slot), V_X12_endAtom_88 post n x1 g k → Wd D (ty4 cI cC cZ cJ) A s (wM ad cI cC cZ cJ g k) H locs → lv_has ls 3 [(0, .ref (ad 0)), (1, .int x1)] → W p l e RM_X12_endAtom s m args below meth c H locs 0 0 (QI below D (ty4 cI cC cZ cJ) A args s (fun u : St × StL => (wM ad cI cC cZ cJ u.1 u.2)) (fun (r : Int32) (u : St × StL) => post r u.1 u.2)) (F0 m 88 ls []) := by
    intro n x1 g k H locs ls h hw hl
    unfold V_X12_endAtom_88 at h
    refine lv_iload_n hx hb dX12_endAtom_88 rfl (lv_at hl 1 rfl) ?_
    refine lv_iconst (v := (5 : Int32)) hx hb dX12_endAtom_89 (by decide) ?_
    refine lv_icmp_le (tgt := 95) hx hb dX12_endAtom_90 (by decide) (fun c_1 => ?_) (fun c_1 => ?_)
    · have h := h.1 c_1
      refine lv_aload_n hx hb dX12_endAtom_95 rfl (lv_at hl 0 rfl) ?_
      refine gt (v := .long (k 0 0)) kfX12_221 0 hC hw rfl rfl dX12_endAtom_96 ?_
      refine lv_ldc2 (v := (1815788 : Int64)) hx hb hC.2.2.2.1 (hC.2.2.2.2 _ (List.mem_cons_of_mem _ kcX12_225)) dX12_endAtom_99 ?_
      refine W.lcmp hx hb dX12_endAtom_102 ?_
      refine lv_if_ne (tgt := 114) hx hb dX12_endAtom_103 (by decide) (fun c_2 => ?_) (fun c_2 => ?_)
      · have h := h.1 c_2
        refine lv_aload_n hx hb dX12_endAtom_114 rfl (lv_at hl 0 rfl) ?_
        refine lv_aload_n hx hb dX12_endAtom_115 rfl (lv_at hl 0 rfl) ?_
        refine gt (v := .long (k 0 0)) kfX12_221 0 hC hw rfl rfl dX12_endAtom_116 ?_
        refine cVIw (q0 := 0) kmX12_165 hC hw (m_X12_symbolOf l D cI cC cZ cJ ad n (k 0 0) g k h) rfl rfl ⟨by decide, by decide⟩ rfl rfl rfl hl.1 (Nat.le_of_ble_eq_true rfl) dX12_endAtom_119 ⟨Nat.zero_le _, Nat.zero_le _⟩ rfl ?_
        intro r_5 u H locs h hw
        obtain ⟨g_3, k_4⟩ := u
        dsimp only at h hw
        refine lv_istore_n (lv' := [(2, .int r_5), (0, .ref (ad 0)), (1, .int x1)]) hx hb dX12_endAtom_122 rfl hl (by decide) rfl (fun ls hl => ?_)
        refine lv_iload_n hx hb dX12_endAtom_123 rfl (lv_at hl 0 rfl) ?_
        refine lv_if_ge (tgt := 129) hx hb dX12_endAtom_124 (by decide) (fun c_6 => ?_) (fun c_6 => ?_)
        · have h := h.1 c_6
          refine lv_aload_n hx hb dX12_endAtom_129 rfl (lv_at hl 1 rfl) ?_
          refine lv_iconst (v := (3 : Int32)) hx hb dX12_endAtom_130 (by decide) ?_
          refine lv_iload_n hx hb dX12_endAtom_131 rfl (lv_at hl 0 rfl) ?_
          refine cSI ksX12_171 hC (m_X12_code l (3 : Int32) r_5 h) rfl rfl ⟨by decide, by decide⟩ rfl hl.1 (Nat.le_of_ble_eq_true rfl) dX12_endAtom_132 ⟨Nat.zero_le _, Nat.zero_le _⟩ rfl ?_
          intro r_7 h
          refine cVVw (q0 := 0) kmX12_217 hC hw (m_X12_add l D cI cC cZ cJ ad n r_7 g_3 k_4 h) rfl rfl ⟨by decide, by decide⟩ rfl rfl rfl hl.1 (Nat.le_of_ble_eq_true rfl) dX12_endAtom_135 ⟨Nat.zero_le _, Nat.zero_le _⟩ rfl ?_
          intro u H locs h hw
          obtain ⟨g_8, k_9⟩ := u
          dsimp only at h hw
          refine lv_iconst (v := (1 : Int32)) hx hb dX12_endAtom_138 (by decide) ?_
          exact rtI (wf := (fun u : St × StL => (wM ad cI cC cZ cJ u.1 u.2))) (g_8, k_9) hC hr hlk hw (by decide) h dX12_endAtom_139
        · have h := h.2 c_6
          refine lv_iconst (v := (0 : Int32)) hx hb dX12_endAtom_127 (by decide) ?_
          exact rtI (wf := (fun u : St × StL => (wM ad cI cC cZ cJ u.1 u.2))) (g_3, k_4) hC hr hlk hw (by decide) h dX12_endAtom_128
      · have h := h.2 c_2
        refine lv_aload_n hx hb dX12_endAtom_106 rfl (lv_at hl 0 rfl) ?_
        refine lv_ldc (v := (1048576 : Int32)) hx hb hC.2.2.2.1 (hC.2.2.2.2 _ (List.mem_cons_of_mem _ kcX12_184)) dX12_endAtom_107 ?_
        refine cVVw (q0 := 0) kmX12_217 hC hw (m_X12_add l D cI cC cZ cJ ad n (1048576 : Int32) g k h) rfl rfl ⟨by decide, by decide⟩ rfl rfl rfl hl.1 (Nat.le_of_ble_eq_true rfl) dX12_endAtom_109 ⟨Nat.zero_le _, Nat.zero_le _⟩ rfl ?_
        intro u H locs h hw
        obtain ⟨g_11, k_12⟩ := u
        dsimp only at h hw
        refine lv_iconst (v := (1 : Int32)) hx hb dX12_endAtom_112 (by decide) ?_
        exact rtI (wf := (fun u : St × StL => (wM ad cI cC cZ cJ u.1 u.2))) (g_11, k_12) hC hr hlk hw (by decide) h dX12_endAtom_113
    · have h := h.2 c_1
      refine lv_iconst (v := (0 : Int32)) hx hb dX12_endAtom_93 (by decide) ?_
      exact rtI (wf := (fun u : St × StL => (wM ad cI cC cZ cJ u.1 u.2))) (g, k) hC hr hlk hw (by decide) h dX12_endAtom_94
  have w_61 : ∀ (n : Nat) (y0 : Int32) (g : St) (k : StL) (H : Heap) (locs : List Loc) (ls : Array Slot), V_X12_endAtom_61 post n y0 g k → Wd D (ty4 cI cC cZ cJ) A s (wM ad cI cC cZ cJ g k) H locs → lv_has ls 3 [(0, .ref (ad 0))] → W p l e RM_X12_endAtom s m args below meth c H locs 0 0 (QI below D (ty4 cI cC cZ cJ) A args s (fun u : St × StL => (wM ad cI cC cZ cJ u.1 u.2)) (fun (r : Int32) (u : St × StL) => post r u.1 u.2)) (F0 m 61 ls [.int y0]) := by
    intro n y0 g k H locs ls h hw hl
    unfold V_X12_endAtom_61 at h
    refine lv_istore_n (lv' := [(2, .int y0), (0, .ref (ad 0))]) hx hb dX12_endAtom_61 rfl hl (by decide) rfl (fun ls hl => ?_)
    refine lv_iload_n hx hb dX12_endAtom_62 rfl (lv_at hl 0 rfl) ?_
    refine lv_sipush (v := (-32768 : Int32)) hx hb dX12_endAtom_63 (by decide) ?_
    refine lv_icmp_lt (tgt := 76) hx hb dX12_endAtom_66 (by decide) (fun c_14 => ?_) (fun c_14 => ?_)
    · have h := h.1 c_14
      refine lv_iconst (v := (0 : Int32)) hx hb dX12_endAtom_76 (by decide) ?_
      exact rtI (wf := (fun u : St × StL => (wM ad cI cC cZ cJ u.1 u.2))) (g, k) hC hr hlk hw (by decide) h dX12_endAtom_77
    · have h := h.2 c_14
      refine lv_iload_n hx hb dX12_endAtom_69 rfl (lv_at hl 0 rfl) ?_
      refine lv_sipush (v := (32767 : Int32)) hx hb dX12_endAtom_70 (by decide) ?_
      refine lv_icmp_le (tgt := 78) hx hb dX12_endAtom_73 (by decide) (fun c_15 => ?_) (fun c_15 => ?_)
      · have h := h.1 c_15
        refine lv_aload_n hx hb dX12_endAtom_78 rfl (lv_at hl 1 rfl) ?_
        refine lv_iload_n hx hb dX12_endAtom_79 rfl (lv_at hl 0 rfl) ?_
        refine cSI ksX12_214 hC (m_X12_numeral l y0 h) rfl rfl ⟨by decide, by decide⟩ rfl hl.1 (Nat.le_of_ble_eq_true rfl) dX12_endAtom_80 ⟨Nat.zero_le _, Nat.zero_le _⟩ rfl ?_
        intro r_16 h
        refine cVVw (q0 := 0) kmX12_217 hC hw (m_X12_add l D cI cC cZ cJ ad n r_16 g k h) rfl rfl ⟨by decide, by decide⟩ rfl rfl rfl hl.1 (Nat.le_of_ble_eq_true rfl) dX12_endAtom_83 ⟨Nat.zero_le _, Nat.zero_le _⟩ rfl ?_
        intro u H locs h hw
        obtain ⟨g_17, k_18⟩ := u
        dsimp only at h hw
        refine lv_iconst (v := (1 : Int32)) hx hb dX12_endAtom_86 (by decide) ?_
        exact rtI (wf := (fun u : St × StL => (wM ad cI cC cZ cJ u.1 u.2))) (g_17, k_18) hC hr hlk hw (by decide) h dX12_endAtom_87
      · have h := h.2 c_15
        refine lv_iconst (v := (0 : Int32)) hx hb dX12_endAtom_76 (by decide) ?_
        exact rtI (wf := (fun u : St × StL => (wM ad cI cC cZ cJ u.1 u.2))) (g, k) hC hr hlk hw (by decide) h dX12_endAtom_77
  unfold V_X12_endAtom at h
  refine lv_aload_n hx hb dX12_endAtom_0 rfl (lv_at hl 0 rfl) ?_
  refine gt (v := .int (g 0 8)) kfX12_201 0 hC hw rfl rfl dX12_endAtom_1 ?_
  refine lv_if_ne (tgt := 9) hx hb dX12_endAtom_4 (by decide) (fun c_20 => ?_) (fun c_20 => ?_)
  · have h := h.1 c_20
    refine lv_aload_n hx hb dX12_endAtom_9 rfl (lv_at hl 0 rfl) ?_
    refine gt (v := .int (g 0 8)) kfX12_201 0 hC hw rfl rfl dX12_endAtom_10 ?_
    refine lv_topi (fun x_21 ex_21 => ?_)
    have h := h x_21 ex_21
    refine lv_istore_n (lv' := [(1, .int x_21), (0, .ref (ad 0))]) hx hb dX12_endAtom_13 rfl hl (by decide) rfl (fun ls hl => ?_)
    refine lv_aload_n hx hb dX12_endAtom_14 rfl (lv_at hl 1 rfl) ?_
    refine lv_iconst (v := (0 : Int32)) hx hb dX12_endAtom_15 (by decide) ?_
    refine pwM_24 kpX12_201 hC hw dX12_endAtom_16 (fun H locs g_22 eg_22 hw => ?_)
    have h := h g_22 eg_22
    refine lv_aload_n hx hb dX12_endAtom_19 rfl (lv_at hl 1 rfl) ?_
    refine gt (v := .int (g_22 0 9)) kfX12_204 0 hC hw rfl rfl dX12_endAtom_20 ?_
    refine lv_if_eq (tgt := 88) hx hb dX12_endAtom_23 (by decide) (fun c_23 => ?_) (fun c_23 => ?_)
    · have h := h.1 c_23
      exact w_88 n x_21 g_22 k _ _ _ h hw (lv_sub hl [1, 0] rfl)
    · have h := h.2 c_23
      refine lv_iload_n hx hb dX12_endAtom_26 rfl (lv_at hl 0 rfl) ?_
      refine lv_aload_n hx hb dX12_endAtom_27 rfl (lv_at hl 1 rfl) ?_
      refine gt (v := .int (g_22 0 10)) kfX12_208 0 hC hw rfl rfl dX12_endAtom_28 ?_
      refine lv_if_eq (tgt := 38) hx hb dX12_endAtom_31 (by decide) (fun c_24 => ?_) (fun c_24 => ?_)
      · have h := h.1 c_24
        refine lv_iconst (v := (0 : Int32)) hx hb dX12_endAtom_38 (by decide) ?_
        refine lv_icmp_le (tgt := 88) hx hb dX12_endAtom_39 (by decide) (fun c_25 => ?_) (fun c_25 => ?_)
        · have h := h.1 c_25
          exact w_88 n x_21 g_22 k _ _ _ h hw (lv_sub hl [1, 0] rfl)
        · have h := h.2 c_25
          refine lv_aload_n hx hb dX12_endAtom_42 rfl (lv_at hl 1 rfl) ?_
          refine gt (v := .int (g_22 0 10)) kfX12_208 0 hC hw rfl rfl dX12_endAtom_43 ?_
          refine lv_if_eq (tgt := 57) hx hb dX12_endAtom_46 (by decide) (fun c_26 => ?_) (fun c_26 => ?_)
          · have h := h.1 c_26
            refine lv_aload_n hx hb dX12_endAtom_57 rfl (lv_at hl 1 rfl) ?_
            refine gt (v := .int (g_22 0 11)) kfX12_211 0 hC hw rfl rfl dX12_endAtom_58 ?_
            exact w_61 n (g_22 0 11) g_22 k _ _ _ h hw (lv_sub hl [1] rfl)
          · have h := h.2 c_26
            refine lv_aload_n hx hb dX12_endAtom_49 rfl (lv_at hl 1 rfl) ?_
            refine gt (v := .int (g_22 0 11)) kfX12_211 0 hC hw rfl rfl dX12_endAtom_50 ?_
            refine lv_ineg hx hb dX12_endAtom_53 ?_
            refine lv_goto (tgt := 61) hx hb dX12_endAtom_54 (by decide) ?_
            exact w_61 n (-(g_22 0 11)) g_22 k _ _ _ h hw (lv_sub hl [1] rfl)
      · have h := h.2 c_24
        refine lv_iconst (v := (1 : Int32)) hx hb dX12_endAtom_34 (by decide) ?_
        refine lv_goto (tgt := 39) hx hb dX12_endAtom_35 (by decide) ?_
        refine lv_icmp_le (tgt := 88) hx hb dX12_endAtom_39 (by decide) (fun c_27 => ?_) (fun c_27 => ?_)
        · have h := h.1 c_27
          exact w_88 n x_21 g_22 k _ _ _ h hw (lv_sub hl [1, 0] rfl)
        · have h := h.2 c_27
          refine lv_aload_n hx hb dX12_endAtom_42 rfl (lv_at hl 1 rfl) ?_
          refine gt (v := .int (g_22 0 10)) kfX12_208 0 hC hw rfl rfl dX12_endAtom_43 ?_
          refine lv_if_eq (tgt := 57) hx hb dX12_endAtom_46 (by decide) (fun c_28 => ?_) (fun c_28 => ?_)
          · have h := h.1 c_28
            refine lv_aload_n hx hb dX12_endAtom_57 rfl (lv_at hl 1 rfl) ?_
            refine gt (v := .int (g_22 0 11)) kfX12_211 0 hC hw rfl rfl dX12_endAtom_58 ?_
            exact w_61 n (g_22 0 11) g_22 k _ _ _ h hw (lv_sub hl [1] rfl)
          · have h := h.2 c_28
            refine lv_aload_n hx hb dX12_endAtom_49 rfl (lv_at hl 1 rfl) ?_
            refine gt (v := .int (g_22 0 11)) kfX12_211 0 hC hw rfl rfl dX12_endAtom_50 ?_
            refine lv_ineg hx hb dX12_endAtom_53 ?_
            refine lv_goto (tgt := 61) hx hb dX12_endAtom_54 (by decide) ?_
            exact w_61 n (-(g_22 0 11)) g_22 k _ _ _ h hw (lv_sub hl [1] rfl)
  · have h := h.2 c_20
    refine lv_iconst (v := (1 : Int32)) hx hb dX12_endAtom_7 (by decide) ?_
    exact rtI (wf := (fun u : St × StL => (wM ad cI cC cZ cJ u.1 u.2))) (g, k) hC hr hlk hw (by decide) h dX12_endAtom_8
def V_X12_letter_106 (post : St → StL → Prop) (x1 : Int32) (g : St) (k : StL) : Prop := (((6 : Int32) ≤ (g 0 8) → post g k) ∧ (¬ (6 : Int32) ≤ (g 0 8) → ∀ g_2 : StL, g_2 = usL k 0 (((k 0 0) * (128 : Int64)) + (x1).toInt64) → ∀ g_3 : St, g_3 = us g 8 ((g 0 8) + (1 : Int32)) → post g_3 g_2))
def V_X12_letter_77 (post : St → StL → Prop) (x1 : Int32) (x2 : Int32) (g : St) (k : StL) : Prop := ((x2 = 0 → V_X12_letter_106 post x1 g k) ∧ (¬ x2 = 0 → (((100000 : Int32) ≤ (g 0 11) → V_X12_letter_106 post x1 g k) ∧ (¬ (100000 : Int32) ≤ (g 0 11) → ∀ g_6 : St, g_6 = us g 11 ((((10 : Int32) * (g 0 11)) + x1) - (48 : Int32)) → V_X12_letter_106 post x1 g_6 k))))
def V_X12_letter_54 (post : St → StL → Prop) (x1 : Int32) (y0 : Int32) (g : St) (k : StL) : Prop := ((¬ y0 = 0 → V_X12_letter_77 post x1 y0 g k) ∧ (y0 = 0 → ((¬ x1 = (45 : Int32) → ∀ g_9 : St, g_9 = us g 9 (0 : Int32) → V_X12_letter_77 post x1 y0 g_9 k) ∧ (x1 = (45 : Int32) → (((g 0 8) ≤ 0 → V_X12_letter_77 post x1 y0 g k) ∧ (¬ (g 0 8) ≤ 0 → ∀ g_11 : St, g_11 = us g 9 (0 : Int32) → V_X12_letter_77 post x1 y0 g_11 k))))))
def V_X12_letter (x1 : Int32) (g : St) (k : StL) (post : St → StL → Prop) : Prop := ((¬ (g 0 8) = 0 → ((x1 < (48 : Int32) → V_X12_letter_54 post x1 (0 : Int32) g k) ∧ (¬ x1 < (48 : Int32) → (((57 : Int32) < x1 → V_X12_letter_54 post x1 (0 : Int32) g k) ∧ (¬ (57 : Int32) < x1 → V_X12_letter_54 post x1 (1 : Int32) g k))))) ∧ ((g 0 8) = 0 → ∀ g_15 : StL, g_15 = usL k 0 (0 : Int64) → ∀ g_16 : St, g_16 = us g 11 (0 : Int32) → ∀ g_17 : St, g_17 = us g_16 9 (1 : Int32) → ((¬ x1 = (45 : Int32) → ∀ g_19 : St, g_19 = us g_17 10 (0 : Int32) → ((x1 < (48 : Int32) → V_X12_letter_54 post x1 (0 : Int32) g_19 g_15) ∧ (¬ x1 < (48 : Int32) → (((57 : Int32) < x1 → V_X12_letter_54 post x1 (0 : Int32) g_19 g_15) ∧ (¬ (57 : Int32) < x1 → V_X12_letter_54 post x1 (1 : Int32) g_19 g_15))))) ∧ (x1 = (45 : Int32) → ∀ g_22 : St, g_22 = us g_17 10 (1 : Int32) → ((x1 < (48 : Int32) → V_X12_letter_54 post x1 (0 : Int32) g_22 g_15) ∧ (¬ x1 < (48 : Int32) → (((57 : Int32) < x1 → V_X12_letter_54 post x1 (0 : Int32) g_22 g_15) ∧ (¬ (57 : Int32) < x1 → V_X12_letter_54 post x1 (1 : Int32) g_22 g_15))))))))
abbrev RM_X12_letter : Room := { frames := 0, cells := 0, slots := 0, locals := 0 }
set_option maxHeartbeats 4000000 in
set_option maxRecDepth 100000 in
theorem m_X12_letter (l : Launch) (D : va_G) (cI cC cZ cJ : ClassId) (ad : Nat → Nat) (x1 : Int32) (g : St) (k : StL) {post : St → StL → Prop} (h : V_X12_letter x1 g k post) : MetV l yX12_letter cX12_letter 3 RM_X12_letter D (ty4 cI cC cZ cJ) (wM ad cI cC cZ cJ g k) [.ref (ad 0), .int x1] (fun u : St × StL => (wM ad cI cC cZ cJ u.1 u.2)) (fun u : St × StL => post u.1 u.2) := by
  refine mkV (by decide) (Nat.le_of_ble_eq_true rfl) ?_
  intro p e s m args below meth c A ls hC hr hlk hw hl
  have hx := hC.1
  have hb := hC.2.1
  have hl : lv_has ls 3 [(0, .ref (ad 0)), (1, .int x1)] := hl
  have w_106 : ∀  (x1 : Int32) (g : St) (k : StL) (H : Heap) (locs : List Loc) (ls : Array Slot), V_X12_letter_106 post x1 g k → Wd D (ty4 cI cC cZ cJ) A s (wM ad cI cC cZ cJ g k) H locs → lv_has ls 3 [(0, .ref (ad 0)), (1, .int x1)] → W p l e RM_X12_letter s m args below meth c H locs 0 0 (QV below D (ty4 cI cC cZ cJ) A args s (fun u : St × StL => (wM ad cI cC cZ cJ u.1 u.2)) (fun u : St × StL => post u.1 u.2)) (F0 m 106 ls []) := by
    intro x1 g k H locs ls h hw hl
    unfold V_X12_letter_106 at h
    refine lv_aload_n hx hb dX12_letter_106 rfl (lv_at hl 0 rfl) ?_
    refine gt (v := .int (g 0 8)) kfX12_201 0 hC hw rfl rfl dX12_letter_107 ?_
    refine lv_bipush (v := (6 : Int32)) hx hb dX12_letter_110 (by decide) ?_
    refine lv_icmp_ge (tgt := 140) hx hb dX12_letter_112 (by decide) (fun c_1 => ?_) (fun c_1 => ?_)
    · have h := h.1 c_1
      exact rtV (wf := (fun u : St × StL => (wM ad cI cC cZ cJ u.1 u.2))) (g, k) hC hr hlk hw h dX12_letter_140
    · have h := h.2 c_1
      refine lv_aload_n hx hb dX12_letter_115 rfl (lv_at hl 0 rfl) ?_
      refine lv_aload_n hx hb dX12_letter_116 rfl (lv_at hl 0 rfl) ?_
      refine gt (v := .long (k 0 0)) kfX12_221 0 hC hw rfl rfl dX12_letter_117 ?_
      refine lv_ldc2 (v := (128 : Int64)) hx hb hC.2.2.2.1 (hC.2.2.2.2 _ (List.mem_cons_of_mem _ kcX12_228)) dX12_letter_120 ?_
      refine lv_lmul hx hb dX12_letter_123 ?_
      refine lv_iload_n hx hb dX12_letter_124 rfl (lv_at hl 1 rfl) ?_
      refine lv_i2l hx hb dX12_letter_125 rfl ?_
      refine lv_ladd hx hb dX12_letter_126 ?_
      refine pwM_25 kpX12_221 hC hw dX12_letter_127 (fun H locs g_2 eg_2 hw => ?_)
      have h := h g_2 eg_2
      refine lv_aload_n hx hb dX12_letter_130 rfl (lv_at hl 0 rfl) ?_
      refine lv_dup hx hb dX12_letter_131 rfl ?_
      refine gt (v := .int (g 0 8)) kfX12_201 0 hC hw rfl rfl dX12_letter_132 ?_
      refine lv_iconst (v := (1 : Int32)) hx hb dX12_letter_135 (by decide) ?_
      refine lv_iadd hx hb dX12_letter_136 ?_
      refine pwM_24 kpX12_201 hC hw dX12_letter_137 (fun H locs g_3 eg_3 hw => ?_)
      have h := h g_3 eg_3
      exact rtV (wf := (fun u : St × StL => (wM ad cI cC cZ cJ u.1 u.2))) (g_3, g_2) hC hr hlk hw h dX12_letter_140
  have w_77 : ∀  (x1 : Int32) (x2 : Int32) (g : St) (k : StL) (H : Heap) (locs : List Loc) (ls : Array Slot), V_X12_letter_77 post x1 x2 g k → Wd D (ty4 cI cC cZ cJ) A s (wM ad cI cC cZ cJ g k) H locs → lv_has ls 3 [(0, .ref (ad 0)), (1, .int x1), (2, .int x2)] → W p l e RM_X12_letter s m args below meth c H locs 0 0 (QV below D (ty4 cI cC cZ cJ) A args s (fun u : St × StL => (wM ad cI cC cZ cJ u.1 u.2)) (fun u : St × StL => post u.1 u.2)) (F0 m 77 ls []) := by
    intro x1 x2 g k H locs ls h hw hl
    unfold V_X12_letter_77 at h
    refine lv_iload_n hx hb dX12_letter_77 rfl (lv_at hl 2 rfl) ?_
    refine lv_if_eq (tgt := 106) hx hb dX12_letter_78 (by decide) (fun c_4 => ?_) (fun c_4 => ?_)
    · have h := h.1 c_4
      exact w_106 x1 g k _ _ _ h hw (lv_sub hl [0, 1] rfl)
    · have h := h.2 c_4
      refine lv_aload_n hx hb dX12_letter_81 rfl (lv_at hl 0 rfl) ?_
      refine gt (v := .int (g 0 11)) kfX12_211 0 hC hw rfl rfl dX12_letter_82 ?_
      refine lv_ldc (v := (100000 : Int32)) hx hb hC.2.2.2.1 (hC.2.2.2.2 _ (List.mem_cons_of_mem _ kcX12_227)) dX12_letter_85 ?_
      refine lv_icmp_ge (tgt := 106) hx hb dX12_letter_87 (by decide) (fun c_5 => ?_) (fun c_5 => ?_)
      · have h := h.1 c_5
        exact w_106 x1 g k _ _ _ h hw (lv_sub hl [0, 1] rfl)
      · have h := h.2 c_5
        refine lv_aload_n hx hb dX12_letter_90 rfl (lv_at hl 0 rfl) ?_
        refine lv_bipush (v := (10 : Int32)) hx hb dX12_letter_91 (by decide) ?_
        refine lv_aload_n hx hb dX12_letter_93 rfl (lv_at hl 0 rfl) ?_
        refine gt (v := .int (g 0 11)) kfX12_211 0 hC hw rfl rfl dX12_letter_94 ?_
        refine lv_imul hx hb dX12_letter_97 ?_
        refine lv_iload_n hx hb dX12_letter_98 rfl (lv_at hl 1 rfl) ?_
        refine lv_iadd hx hb dX12_letter_99 ?_
        refine lv_bipush (v := (48 : Int32)) hx hb dX12_letter_100 (by decide) ?_
        refine lv_isub hx hb dX12_letter_102 ?_
        refine pwM_28 kpX12_211 hC hw dX12_letter_103 (fun H locs g_6 eg_6 hw => ?_)
        have h := h g_6 eg_6
        exact w_106 x1 g_6 k _ _ _ h hw (lv_sub hl [0, 1] rfl)
  have w_54 : ∀  (x1 : Int32) (y0 : Int32) (g : St) (k : StL) (H : Heap) (locs : List Loc) (ls : Array Slot), V_X12_letter_54 post x1 y0 g k → Wd D (ty4 cI cC cZ cJ) A s (wM ad cI cC cZ cJ g k) H locs → lv_has ls 3 [(0, .ref (ad 0)), (1, .int x1)] → W p l e RM_X12_letter s m args below meth c H locs 0 0 (QV below D (ty4 cI cC cZ cJ) A args s (fun u : St × StL => (wM ad cI cC cZ cJ u.1 u.2)) (fun u : St × StL => post u.1 u.2)) (F0 m 54 ls [.int y0]) := by
    intro x1 y0 g k H locs ls h hw hl
    unfold V_X12_letter_54 at h
    refine lv_istore_n (lv' := [(2, .int y0), (0, .ref (ad 0)), (1, .int x1)]) hx hb dX12_letter_54 rfl hl (by decide) rfl (fun ls hl => ?_)
    refine lv_iload_n hx hb dX12_letter_55 rfl (lv_at hl 0 rfl) ?_
    refine lv_if_ne (tgt := 77) hx hb dX12_letter_56 (by decide) (fun c_7 => ?_) (fun c_7 => ?_)
    · have h := h.1 c_7
      exact w_77 x1 y0 g k _ _ _ h hw (lv_sub hl [1, 2, 0] rfl)
    · have h := h.2 c_7
      refine lv_iload_n hx hb dX12_letter_59 rfl (lv_at hl 2 rfl) ?_
      refine lv_bipush (v := (45 : Int32)) hx hb dX12_letter_60 (by decide) ?_
      refine lv_icmp_ne (tgt := 72) hx hb dX12_letter_62 (by decide) (fun c_8 => ?_) (fun c_8 => ?_)
      · have h := h.1 c_8
        refine lv_aload_n hx hb dX12_letter_72 rfl (lv_at hl 1 rfl) ?_
        refine lv_iconst (v := (0 : Int32)) hx hb dX12_letter_73 (by decide) ?_
        refine pwM_26 kpX12_204 (by decide) hC hw dX12_letter_74 (fun H locs g_9 eg_9 hw => ?_)
        have h := h g_9 eg_9
        exact w_77 x1 y0 g_9 k _ _ _ h hw (lv_sub hl [1, 2, 0] rfl)
      · have h := h.2 c_8
        refine lv_aload_n hx hb dX12_letter_65 rfl (lv_at hl 1 rfl) ?_
        refine gt (v := .int (g 0 8)) kfX12_201 0 hC hw rfl rfl dX12_letter_66 ?_
        refine lv_if_le (tgt := 77) hx hb dX12_letter_69 (by decide) (fun c_10 => ?_) (fun c_10 => ?_)
        · have h := h.1 c_10
          exact w_77 x1 y0 g k _ _ _ h hw (lv_sub hl [1, 2, 0] rfl)
        · have h := h.2 c_10
          refine lv_aload_n hx hb dX12_letter_72 rfl (lv_at hl 1 rfl) ?_
          refine lv_iconst (v := (0 : Int32)) hx hb dX12_letter_73 (by decide) ?_
          refine pwM_26 kpX12_204 (by decide) hC hw dX12_letter_74 (fun H locs g_11 eg_11 hw => ?_)
          have h := h g_11 eg_11
          exact w_77 x1 y0 g_11 k _ _ _ h hw (lv_sub hl [1, 2, 0] rfl)
  unfold V_X12_letter at h
  refine lv_aload_n hx hb dX12_letter_0 rfl (lv_at hl 0 rfl) ?_
  refine gt (v := .int (g 0 8)) kfX12_201 0 hC hw rfl rfl dX12_letter_1 ?_
  refine lv_if_ne (tgt := 37) hx hb dX12_letter_4 (by decide) (fun c_12 => ?_) (fun c_12 => ?_)
  · have h := h.1 c_12
    refine lv_iload_n hx hb dX12_letter_37 rfl (lv_at hl 1 rfl) ?_
    refine lv_bipush (v := (48 : Int32)) hx hb dX12_letter_38 (by decide) ?_
    refine lv_icmp_lt (tgt := 53) hx hb dX12_letter_40 (by decide) (fun c_13 => ?_) (fun c_13 => ?_)
    · have h := h.1 c_13
      refine lv_iconst (v := (0 : Int32)) hx hb dX12_letter_53 (by decide) ?_
      exact w_54 x1 (0 : Int32) g k _ _ _ h hw (lv_sub hl [0, 1] rfl)
    · have h := h.2 c_13
      refine lv_iload_n hx hb dX12_letter_43 rfl (lv_at hl 1 rfl) ?_
      refine lv_bipush (v := (57 : Int32)) hx hb dX12_letter_44 (by decide) ?_
      refine lv_icmp_gt (tgt := 53) hx hb dX12_letter_46 (by decide) (fun c_14 => ?_) (fun c_14 => ?_)
      · have h := h.1 c_14
        refine lv_iconst (v := (0 : Int32)) hx hb dX12_letter_53 (by decide) ?_
        exact w_54 x1 (0 : Int32) g k _ _ _ h hw (lv_sub hl [0, 1] rfl)
      · have h := h.2 c_14
        refine lv_iconst (v := (1 : Int32)) hx hb dX12_letter_49 (by decide) ?_
        refine lv_goto (tgt := 54) hx hb dX12_letter_50 (by decide) ?_
        exact w_54 x1 (1 : Int32) g k _ _ _ h hw (lv_sub hl [0, 1] rfl)
  · have h := h.2 c_12
    refine lv_aload_n hx hb dX12_letter_7 rfl (lv_at hl 0 rfl) ?_
    refine lv_lconst (v := (0 : Int64)) hx hb dX12_letter_8 (by decide) ?_
    refine pwM_25 kpX12_221 hC hw dX12_letter_9 (fun H locs g_15 eg_15 hw => ?_)
    have h := h g_15 eg_15
    refine lv_aload_n hx hb dX12_letter_12 rfl (lv_at hl 0 rfl) ?_
    refine lv_iconst (v := (0 : Int32)) hx hb dX12_letter_13 (by decide) ?_
    refine pwM_28 kpX12_211 hC hw dX12_letter_14 (fun H locs g_16 eg_16 hw => ?_)
    have h := h g_16 eg_16
    refine lv_aload_n hx hb dX12_letter_17 rfl (lv_at hl 0 rfl) ?_
    refine lv_iconst (v := (1 : Int32)) hx hb dX12_letter_18 (by decide) ?_
    refine pwM_26 kpX12_204 (by decide) hC hw dX12_letter_19 (fun H locs g_17 eg_17 hw => ?_)
    have h := h g_17 eg_17
    refine lv_aload_n hx hb dX12_letter_22 rfl (lv_at hl 0 rfl) ?_
    refine lv_iload_n hx hb dX12_letter_23 rfl (lv_at hl 1 rfl) ?_
    refine lv_bipush (v := (45 : Int32)) hx hb dX12_letter_24 (by decide) ?_
    refine lv_icmp_ne (tgt := 33) hx hb dX12_letter_26 (by decide) (fun c_18 => ?_) (fun c_18 => ?_)
    · have h := h.1 c_18
      refine lv_iconst (v := (0 : Int32)) hx hb dX12_letter_33 (by decide) ?_
      refine pwM_27 kpX12_208 (by decide) hC hw dX12_letter_34 (fun H locs g_19 eg_19 hw => ?_)
      have h := h g_19 eg_19
      refine lv_iload_n hx hb dX12_letter_37 rfl (lv_at hl 1 rfl) ?_
      refine lv_bipush (v := (48 : Int32)) hx hb dX12_letter_38 (by decide) ?_
      refine lv_icmp_lt (tgt := 53) hx hb dX12_letter_40 (by decide) (fun c_20 => ?_) (fun c_20 => ?_)
      · have h := h.1 c_20
        refine lv_iconst (v := (0 : Int32)) hx hb dX12_letter_53 (by decide) ?_
        exact w_54 x1 (0 : Int32) g_19 g_15 _ _ _ h hw (lv_sub hl [0, 1] rfl)
      · have h := h.2 c_20
        refine lv_iload_n hx hb dX12_letter_43 rfl (lv_at hl 1 rfl) ?_
        refine lv_bipush (v := (57 : Int32)) hx hb dX12_letter_44 (by decide) ?_
        refine lv_icmp_gt (tgt := 53) hx hb dX12_letter_46 (by decide) (fun c_21 => ?_) (fun c_21 => ?_)
        · have h := h.1 c_21
          refine lv_iconst (v := (0 : Int32)) hx hb dX12_letter_53 (by decide) ?_
          exact w_54 x1 (0 : Int32) g_19 g_15 _ _ _ h hw (lv_sub hl [0, 1] rfl)
        · have h := h.2 c_21
          refine lv_iconst (v := (1 : Int32)) hx hb dX12_letter_49 (by decide) ?_
          refine lv_goto (tgt := 54) hx hb dX12_letter_50 (by decide) ?_
          exact w_54 x1 (1 : Int32) g_19 g_15 _ _ _ h hw (lv_sub hl [0, 1] rfl)
    · have h := h.2 c_18
      refine lv_iconst (v := (1 : Int32)) hx hb dX12_letter_29 (by decide) ?_
      refine lv_goto (tgt := 34) hx hb dX12_letter_30 (by decide) ?_
      refine pwM_27 kpX12_208 (by decide) hC hw dX12_letter_34 (fun H locs g_22 eg_22 hw => ?_)
      have h := h g_22 eg_22
      refine lv_iload_n hx hb dX12_letter_37 rfl (lv_at hl 1 rfl) ?_
      refine lv_bipush (v := (48 : Int32)) hx hb dX12_letter_38 (by decide) ?_
      refine lv_icmp_lt (tgt := 53) hx hb dX12_letter_40 (by decide) (fun c_23 => ?_) (fun c_23 => ?_)
      · have h := h.1 c_23
        refine lv_iconst (v := (0 : Int32)) hx hb dX12_letter_53 (by decide) ?_
        exact w_54 x1 (0 : Int32) g_22 g_15 _ _ _ h hw (lv_sub hl [0, 1] rfl)
      · have h := h.2 c_23
        refine lv_iload_n hx hb dX12_letter_43 rfl (lv_at hl 1 rfl) ?_
        refine lv_bipush (v := (57 : Int32)) hx hb dX12_letter_44 (by decide) ?_
        refine lv_icmp_gt (tgt := 53) hx hb dX12_letter_46 (by decide) (fun c_24 => ?_) (fun c_24 => ?_)
        · have h := h.1 c_24
          refine lv_iconst (v := (0 : Int32)) hx hb dX12_letter_53 (by decide) ?_
          exact w_54 x1 (0 : Int32) g_22 g_15 _ _ _ h hw (lv_sub hl [0, 1] rfl)
        · have h := h.2 c_24
          refine lv_iconst (v := (1 : Int32)) hx hb dX12_letter_49 (by decide) ?_
          refine lv_goto (tgt := 54) hx hb dX12_letter_50 (by decide) ?_
          exact w_54 x1 (1 : Int32) g_22 g_15 _ _ _ h hw (lv_sub hl [0, 1] rfl)
def V_X12_drop (g : St) (k : StL) (post : Int32 → St → StL → Prop) : Prop := ∀ g_1 : St, g_1 = us g 7 (0 : Int32) → ∀ g_2 : St, g_2 = us g_1 8 (0 : Int32) → V_X12_raise (1 : Int32) g_2 k (fun r_5 g_3 k_4 => post r_5 g_3 k_4)
abbrev RM_X12_drop : Room := { frames := 1, cells := 0, slots := 0, locals := 21 }
set_option maxHeartbeats 4000000 in
set_option maxRecDepth 100000 in
theorem m_X12_drop (l : Launch) (D : va_G) (cI cC cZ cJ : ClassId) (ad : Nat → Nat) (g : St) (k : StL) {post : Int32 → St → StL → Prop} (h : V_X12_drop g k post) : MetI l yX12_drop cX12_drop 1 .int RM_X12_drop D (ty4 cI cC cZ cJ) (wM ad cI cC cZ cJ g k) [.ref (ad 0)] (fun u : St × StL => (wM ad cI cC cZ cJ u.1 u.2)) (fun (r : Int32) (u : St × StL) => post r u.1 u.2) := by
  refine mkI (by decide) (Nat.le_of_ble_eq_true rfl) ?_
  intro p e s m args below meth c A ls hC hr hlk hw hl
  have hx := hC.1
  have hb := hC.2.1
  have hl : lv_has ls 1 [(0, .ref (ad 0))] := hl
  unfold V_X12_drop at h
  refine lv_aload_n hx hb dX12_drop_0 rfl (lv_at hl 0 rfl) ?_
  refine lv_iconst (v := (0 : Int32)) hx hb dX12_drop_1 (by decide) ?_
  refine pwM_23 kpX12_191 hC hw dX12_drop_2 (fun H locs g_1 eg_1 hw => ?_)
  have h := h g_1 eg_1
  refine lv_aload_n hx hb dX12_drop_5 rfl (lv_at hl 0 rfl) ?_
  refine lv_iconst (v := (0 : Int32)) hx hb dX12_drop_6 (by decide) ?_
  refine pwM_24 kpX12_201 hC hw dX12_drop_7 (fun H locs g_2 eg_2 hw => ?_)
  have h := h g_2 eg_2
  refine lv_aload_n hx hb dX12_drop_10 rfl (lv_at hl 0 rfl) ?_
  refine lv_iconst (v := (1 : Int32)) hx hb dX12_drop_11 (by decide) ?_
  refine cVIw (q0 := 0) kmX12_230 hC hw (m_X12_raise l D cI cC cZ cJ ad (1 : Int32) g_2 k h) rfl rfl ⟨by decide, by decide⟩ rfl rfl rfl hl.1 (Nat.le_of_ble_eq_true rfl) dX12_drop_12 ⟨Nat.zero_le _, Nat.zero_le _⟩ rfl ?_
  intro r_5 u H locs h hw
  obtain ⟨g_3, k_4⟩ := u
  dsimp only at h hw
  exact rtI (wf := (fun u : St × StL => (wM ad cI cC cZ cJ u.1 u.2))) (g_3, k_4) hC hr hlk hw rfl h dX12_drop_15
def V_X12_atomic_24 (post : Int32 → Prop) (x0 : Int32) : Prop := ((x0 = (43 : Int32) → post (1 : Int32)) ∧ (¬ x0 = (43 : Int32) → ((x0 = (45 : Int32) → post (1 : Int32)) ∧ (¬ x0 = (45 : Int32) → ((x0 = (42 : Int32) → post (1 : Int32)) ∧ (¬ x0 = (42 : Int32) → ((x0 = (47 : Int32) → post (1 : Int32)) ∧ (¬ x0 = (47 : Int32) → ((¬ x0 = (60 : Int32) → post (0 : Int32)) ∧ (x0 = (60 : Int32) → post (1 : Int32)))))))))))
def V_X12_atomic (x0 : Int32) (post : Int32 → Prop) : Prop := ((x0 < (97 : Int32) → ((x0 < (48 : Int32) → V_X12_atomic_24 post x0) ∧ (¬ x0 < (48 : Int32) → ((x0 ≤ (57 : Int32) → post (1 : Int32)) ∧ (¬ x0 ≤ (57 : Int32) → V_X12_atomic_24 post x0))))) ∧ (¬ x0 < (97 : Int32) → ((x0 ≤ (122 : Int32) → post (1 : Int32)) ∧ (¬ x0 ≤ (122 : Int32) → ((x0 < (48 : Int32) → V_X12_atomic_24 post x0) ∧ (¬ x0 < (48 : Int32) → ((x0 ≤ (57 : Int32) → post (1 : Int32)) ∧ (¬ x0 ≤ (57 : Int32) → V_X12_atomic_24 post x0))))))))
abbrev RM_X12_atomic : Room := { frames := 0, cells := 0, slots := 0, locals := 0 }
set_option maxHeartbeats 4000000 in
set_option maxRecDepth 100000 in
theorem m_X12_atomic (l : Launch) (x0 : Int32) {post : Int32 → Prop} (h : V_X12_atomic x0 post) : MetS l yX12_atomic cX12_atomic 1 .boolean RM_X12_atomic [.int x0] post := by
  refine mkS (by decide) (Nat.le_of_ble_eq_true rfl) ?_
  intro p e s m args below meth c ls hC hr hlk hl
  have hx := hC.1
  have hb := hC.2.1
  have hl : lv_has ls 1 [(0, .int x0)] := hl
  have w_24 : ∀  (x0 : Int32) (ls : Array Slot), V_X12_atomic_24 post x0 → lv_has ls 1 [(0, .int x0)] → W p l e RM_X12_atomic s m args below meth c s.heap [] 0 0 (MQ below (vp_Si post) args s 0 0 (fun _ => False)) (F0 m 24 ls []) := by
    intro x0 ls h hl
    unfold V_X12_atomic_24 at h
    refine lv_iload_n hx hb dX12_atomic_24 rfl (lv_at hl 0 rfl) ?_
    refine lv_bipush (v := (43 : Int32)) hx hb dX12_atomic_25 (by decide) ?_
    refine lv_icmp_eq (tgt := 54) hx hb dX12_atomic_27 (by decide) (fun c_1 => ?_) (fun c_1 => ?_)
    · have h := h.1 c_1
      refine lv_iconst (v := (1 : Int32)) hx hb dX12_atomic_54 (by decide) ?_
      refine lv_goto (tgt := 59) hx hb dX12_atomic_55 (by decide) ?_
      exact rtS hC hr hlk (by decide) h dX12_atomic_59
    · have h := h.2 c_1
      refine lv_iload_n hx hb dX12_atomic_30 rfl (lv_at hl 0 rfl) ?_
      refine lv_bipush (v := (45 : Int32)) hx hb dX12_atomic_31 (by decide) ?_
      refine lv_icmp_eq (tgt := 54) hx hb dX12_atomic_33 (by decide) (fun c_2 => ?_) (fun c_2 => ?_)
      · have h := h.1 c_2
        refine lv_iconst (v := (1 : Int32)) hx hb dX12_atomic_54 (by decide) ?_
        refine lv_goto (tgt := 59) hx hb dX12_atomic_55 (by decide) ?_
        exact rtS hC hr hlk (by decide) h dX12_atomic_59
      · have h := h.2 c_2
        refine lv_iload_n hx hb dX12_atomic_36 rfl (lv_at hl 0 rfl) ?_
        refine lv_bipush (v := (42 : Int32)) hx hb dX12_atomic_37 (by decide) ?_
        refine lv_icmp_eq (tgt := 54) hx hb dX12_atomic_39 (by decide) (fun c_3 => ?_) (fun c_3 => ?_)
        · have h := h.1 c_3
          refine lv_iconst (v := (1 : Int32)) hx hb dX12_atomic_54 (by decide) ?_
          refine lv_goto (tgt := 59) hx hb dX12_atomic_55 (by decide) ?_
          exact rtS hC hr hlk (by decide) h dX12_atomic_59
        · have h := h.2 c_3
          refine lv_iload_n hx hb dX12_atomic_42 rfl (lv_at hl 0 rfl) ?_
          refine lv_bipush (v := (47 : Int32)) hx hb dX12_atomic_43 (by decide) ?_
          refine lv_icmp_eq (tgt := 54) hx hb dX12_atomic_45 (by decide) (fun c_4 => ?_) (fun c_4 => ?_)
          · have h := h.1 c_4
            refine lv_iconst (v := (1 : Int32)) hx hb dX12_atomic_54 (by decide) ?_
            refine lv_goto (tgt := 59) hx hb dX12_atomic_55 (by decide) ?_
            exact rtS hC hr hlk (by decide) h dX12_atomic_59
          · have h := h.2 c_4
            refine lv_iload_n hx hb dX12_atomic_48 rfl (lv_at hl 0 rfl) ?_
            refine lv_bipush (v := (60 : Int32)) hx hb dX12_atomic_49 (by decide) ?_
            refine lv_icmp_ne (tgt := 58) hx hb dX12_atomic_51 (by decide) (fun c_5 => ?_) (fun c_5 => ?_)
            · have h := h.1 c_5
              refine lv_iconst (v := (0 : Int32)) hx hb dX12_atomic_58 (by decide) ?_
              exact rtS hC hr hlk (by decide) h dX12_atomic_59
            · have h := h.2 c_5
              refine lv_iconst (v := (1 : Int32)) hx hb dX12_atomic_54 (by decide) ?_
              refine lv_goto (tgt := 59) hx hb dX12_atomic_55 (by decide) ?_
              exact rtS hC hr hlk (by decide) h dX12_atomic_59
  unfold V_X12_atomic at h
  refine lv_iload_n hx hb dX12_atomic_0 rfl (lv_at hl 0 rfl) ?_
  refine lv_bipush (v := (97 : Int32)) hx hb dX12_atomic_1 (by decide) ?_
  refine lv_icmp_lt (tgt := 12) hx hb dX12_atomic_3 (by decide) (fun c_6 => ?_) (fun c_6 => ?_)
  · have h := h.1 c_6
    refine lv_iload_n hx hb dX12_atomic_12 rfl (lv_at hl 0 rfl) ?_
    refine lv_bipush (v := (48 : Int32)) hx hb dX12_atomic_13 (by decide) ?_
    refine lv_icmp_lt (tgt := 24) hx hb dX12_atomic_15 (by decide) (fun c_7 => ?_) (fun c_7 => ?_)
    · have h := h.1 c_7
      exact w_24 x0 _ h (lv_sub hl [0] rfl)
    · have h := h.2 c_7
      refine lv_iload_n hx hb dX12_atomic_18 rfl (lv_at hl 0 rfl) ?_
      refine lv_bipush (v := (57 : Int32)) hx hb dX12_atomic_19 (by decide) ?_
      refine lv_icmp_le (tgt := 54) hx hb dX12_atomic_21 (by decide) (fun c_8 => ?_) (fun c_8 => ?_)
      · have h := h.1 c_8
        refine lv_iconst (v := (1 : Int32)) hx hb dX12_atomic_54 (by decide) ?_
        refine lv_goto (tgt := 59) hx hb dX12_atomic_55 (by decide) ?_
        exact rtS hC hr hlk (by decide) h dX12_atomic_59
      · have h := h.2 c_8
        exact w_24 x0 _ h (lv_sub hl [0] rfl)
  · have h := h.2 c_6
    refine lv_iload_n hx hb dX12_atomic_6 rfl (lv_at hl 0 rfl) ?_
    refine lv_bipush (v := (122 : Int32)) hx hb dX12_atomic_7 (by decide) ?_
    refine lv_icmp_le (tgt := 54) hx hb dX12_atomic_9 (by decide) (fun c_9 => ?_) (fun c_9 => ?_)
    · have h := h.1 c_9
      refine lv_iconst (v := (1 : Int32)) hx hb dX12_atomic_54 (by decide) ?_
      refine lv_goto (tgt := 59) hx hb dX12_atomic_55 (by decide) ?_
      exact rtS hC hr hlk (by decide) h dX12_atomic_59
    · have h := h.2 c_9
      refine lv_iload_n hx hb dX12_atomic_12 rfl (lv_at hl 0 rfl) ?_
      refine lv_bipush (v := (48 : Int32)) hx hb dX12_atomic_13 (by decide) ?_
      refine lv_icmp_lt (tgt := 24) hx hb dX12_atomic_15 (by decide) (fun c_10 => ?_) (fun c_10 => ?_)
      · have h := h.1 c_10
        exact w_24 x0 _ h (lv_sub hl [0] rfl)
      · have h := h.2 c_10
        refine lv_iload_n hx hb dX12_atomic_18 rfl (lv_at hl 0 rfl) ?_
        refine lv_bipush (v := (57 : Int32)) hx hb dX12_atomic_19 (by decide) ?_
        refine lv_icmp_le (tgt := 54) hx hb dX12_atomic_21 (by decide) (fun c_11 => ?_) (fun c_11 => ?_)
        · have h := h.1 c_11
          refine lv_iconst (v := (1 : Int32)) hx hb dX12_atomic_54 (by decide) ?_
          refine lv_goto (tgt := 59) hx hb dX12_atomic_55 (by decide) ?_
          exact rtS hC hr hlk (by decide) h dX12_atomic_59
        · have h := h.2 c_11
          exact w_24 x0 _ h (lv_sub hl [0] rfl)
def V_X12_opOf (x1 : Int32) (g : St) (k : StL) (post : Int32 → St → StL → Prop) : Prop := V_X12_car x1 g k (fun r_3 g_1 k_2 => V_X12_sortOf r_3 (fun r_4 => ((¬ r_4 = (3 : Int32) → post (31 : Int32) g_1 k_2) ∧ (r_4 = (3 : Int32) → V_X12_car x1 g_1 k_2 (fun r_8 g_6 k_7 => V_X12_load r_8 (fun r_9 => (vp_in r_9 40 ∧ post (g_6 1 r_9.toNatClampNeg) g_6 k_7)))))))
abbrev RM_X12_opOf : Room := { frames := 2, cells := 0, slots := 0, locals := 41 }
set_option maxHeartbeats 4000000 in
set_option maxRecDepth 100000 in
theorem m_X12_opOf (l : Launch) (D : va_G) (cI cC cZ cJ : ClassId) (ad : Nat → Nat) (x1 : Int32) (g : St) (k : StL) {post : Int32 → St → StL → Prop} (h : V_X12_opOf x1 g k post) : MetI l yX12_opOf cX12_opOf 2 .int RM_X12_opOf D (ty4 cI cC cZ cJ) (wM ad cI cC cZ cJ g k) [.ref (ad 0), .int x1] (fun u : St × StL => (wM ad cI cC cZ cJ u.1 u.2)) (fun (r : Int32) (u : St × StL) => post r u.1 u.2) := by
  refine mkI (by decide) (Nat.le_of_ble_eq_true rfl) ?_
  intro p e s m args below meth c A ls hC hr hlk hw hl
  have hx := hC.1
  have hb := hC.2.1
  have hl : lv_has ls 2 [(0, .ref (ad 0)), (1, .int x1)] := hl
  unfold V_X12_opOf at h
  refine lv_aload_n hx hb dX12_opOf_0 rfl (lv_at hl 0 rfl) ?_
  refine lv_iload_n hx hb dX12_opOf_1 rfl (lv_at hl 1 rfl) ?_
  refine cVIw (q0 := 0) kmX12_260 hC hw (m_X12_car l D cI cC cZ cJ ad x1 g k h) rfl rfl ⟨by decide, by decide⟩ rfl rfl rfl hl.1 (Nat.le_of_ble_eq_true rfl) dX12_opOf_2 ⟨Nat.zero_le _, Nat.zero_le _⟩ rfl ?_
  intro r_3 u H locs h hw
  obtain ⟨g_1, k_2⟩ := u
  dsimp only at h hw
  refine cSI ksX12_254 hC (m_X12_sortOf l r_3 h) rfl rfl ⟨by decide, by decide⟩ rfl hl.1 (Nat.le_of_ble_eq_true rfl) dX12_opOf_5 ⟨Nat.zero_le _, Nat.zero_le _⟩ rfl ?_
  intro r_4 h
  refine lv_iconst (v := (3 : Int32)) hx hb dX12_opOf_8 (by decide) ?_
  refine lv_icmp_ne (tgt := 28) hx hb dX12_opOf_9 (by decide) (fun c_5 => ?_) (fun c_5 => ?_)
  · have h := h.1 c_5
    refine lv_bipush (v := (31 : Int32)) hx hb dX12_opOf_28 (by decide) ?_
    exact rtI (wf := (fun u : St × StL => (wM ad cI cC cZ cJ u.1 u.2))) (g_1, k_2) hC hr hlk hw rfl h dX12_opOf_30
  · have h := h.2 c_5
    refine lv_aload_n hx hb dX12_opOf_12 rfl (lv_at hl 0 rfl) ?_
    refine gt (v := .ref (ad 2)) kfX12_13 0 hC hw rfl rfl dX12_opOf_13 ?_
    refine lv_aload_n hx hb dX12_opOf_16 rfl (lv_at hl 0 rfl) ?_
    refine lv_iload_n hx hb dX12_opOf_17 rfl (lv_at hl 1 rfl) ?_
    refine cVIw (q0 := 0) kmX12_260 hC hw (m_X12_car l D cI cC cZ cJ ad x1 g_1 k_2 h) rfl rfl ⟨by decide, by decide⟩ rfl rfl rfl hl.1 (Nat.le_of_ble_eq_true rfl) dX12_opOf_18 ⟨Nat.zero_le _, Nat.zero_le _⟩ rfl ?_
    intro r_8 u H locs h hw
    obtain ⟨g_6, k_7⟩ := u
    dsimp only at h hw
    refine cSI ksX12_180 hC (m_X12_load l r_8 h) rfl rfl ⟨by decide, by decide⟩ rfl hl.1 (Nat.le_of_ble_eq_true rfl) dX12_opOf_21 ⟨Nat.zero_le _, Nat.zero_le _⟩ rfl ?_
    intro r_9 h
    refine ldI 2 0 hC hw rfl rfl h.1 dX12_opOf_24 ?_
    have h := h.2
    refine lv_goto (tgt := 30) hx hb dX12_opOf_25 (by decide) ?_
    exact rtI (wf := (fun u : St × StL => (wM ad cI cC cZ cJ u.1 u.2))) (g_6, k_7) hC hr hlk hw rfl h dX12_opOf_30
def V_X12_parts_4 (post : Int32 → St → StL → Prop) : Nat → Int32 → Int32 → St → StL → Prop
  | 0, _, _, _, _ => False
  | n + 1, x2, x3, g, k => ((x3 = (1048576 : Int32) → post x2 g k) ∧ (¬ x3 = (1048576 : Int32) → ∀ x_2 : Int32, x_2 = x2 + (1 : Int32) → V_X12_cdr x3 g k (fun r_5 g_3 k_4 => V_X12_parts_4 post n x_2 r_5 g_3 k_4)))
def V_X12_parts (n : Nat) (x1 : Int32) (g : St) (k : StL) (post : Int32 → St → StL → Prop) : Prop := ∀ x_6 : Int32, x_6 = (0 : Int32) → V_X12_parts_4 post n x_6 x1 g k
abbrev RM_X12_parts : Room := { frames := 2, cells := 0, slots := 0, locals := 41 }
set_option maxHeartbeats 4000000 in
set_option maxRecDepth 100000 in
theorem m_X12_parts (l : Launch) (D : va_G) (cI cC cZ cJ : ClassId) (ad : Nat → Nat) (n : Nat) (x1 : Int32) (g : St) (k : StL) {post : Int32 → St → StL → Prop} (h : V_X12_parts n x1 g k post) : MetI l yX12_parts cX12_parts 4 .int RM_X12_parts D (ty4 cI cC cZ cJ) (wM ad cI cC cZ cJ g k) [.ref (ad 0), .int x1] (fun u : St × StL => (wM ad cI cC cZ cJ u.1 u.2)) (fun (r : Int32) (u : St × StL) => post r u.1 u.2) := by
  refine mkI (by decide) (Nat.le_of_ble_eq_true rfl) ?_
  intro p e s m args below meth c A ls hC hr hlk hw hl
  have hx := hC.1
  have hb := hC.2.1
  have hl : lv_has ls 4 [(0, .ref (ad 0)), (1, .int x1)] := hl
  have w_4 : ∀ (n : Nat) (x2 : Int32) (x3 : Int32) (g : St) (k : StL) (H : Heap) (locs : List Loc) (ls : Array Slot), V_X12_parts_4 post n x2 x3 g k → Wd D (ty4 cI cC cZ cJ) A s (wM ad cI cC cZ cJ g k) H locs → lv_has ls 4 [(0, .ref (ad 0)), (2, .int x2), (3, .int x3)] → W p l e RM_X12_parts s m args below meth c H locs 0 0 (QI below D (ty4 cI cC cZ cJ) A args s (fun u : St × StL => (wM ad cI cC cZ cJ u.1 u.2)) (fun (r : Int32) (u : St × StL) => post r u.1 u.2)) (F0 m 4 ls []) := by
    intro n
    induction n with
    | zero =>
      intro x2 x3 g k H locs ls h
      exact False.elim h
    | succ n ih =>
      intro x2 x3 g k H locs ls h hw hl
      rw [V_X12_parts_4] at h
      refine lv_iload_n hx hb dX12_parts_4 rfl (lv_at hl 2 rfl) ?_
      refine lv_ldc (v := (1048576 : Int32)) hx hb hC.2.2.2.1 (hC.2.2.2.2 _ (List.mem_cons_of_mem _ kcX12_184)) dX12_parts_5 ?_
      refine lv_icmp_eq (tgt := 22) hx hb dX12_parts_7 (by decide) (fun c_1 => ?_) (fun c_1 => ?_)
      · have h := h.1 c_1
        refine lv_iload_n hx hb dX12_parts_22 rfl (lv_at hl 1 rfl) ?_
        exact rtI (wf := (fun u : St × StL => (wM ad cI cC cZ cJ u.1 u.2))) (g, k) hC hr hlk hw rfl h dX12_parts_23
      · have h := h.2 c_1
        obtain ⟨x_2, ex_2⟩ : ∃ y : Int32, y = x2 + (1 : Int32) := ⟨_, rfl⟩
        have h := h x_2 ex_2
        refine lv_iinc (v := x_2) (lv' := [(2, .int x_2), (0, .ref (ad 0)), (3, .int x3)]) hx hb dX12_parts_10 hl (k := 1) rfl (by rw [ex_2]; rfl) (by decide) rfl (fun ls hl => ?_)
        refine lv_aload_n hx hb dX12_parts_13 rfl (lv_at hl 1 rfl) ?_
        refine lv_iload_n hx hb dX12_parts_14 rfl (lv_at hl 2 rfl) ?_
        refine cVIw (q0 := 0) kmX12_251 hC hw (m_X12_cdr l D cI cC cZ cJ ad x3 g k h) rfl rfl ⟨by decide, by decide⟩ rfl rfl rfl hl.1 (Nat.le_of_ble_eq_true rfl) dX12_parts_15 ⟨Nat.zero_le _, Nat.zero_le _⟩ rfl ?_
        intro r_5 u H locs h hw
        obtain ⟨g_3, k_4⟩ := u
        dsimp only at h hw
        refine lv_istore_n (lv' := [(3, .int r_5), (2, .int x_2), (0, .ref (ad 0))]) hx hb dX12_parts_18 rfl hl (by decide) rfl (fun ls hl => ?_)
        refine lv_goto (tgt := 4) hx hb dX12_parts_19 (by decide) ?_
        exact ih x_2 r_5 g_3 k_4 _ _ _ h hw (lv_sub hl [2, 1, 0] rfl)
  unfold V_X12_parts at h
  refine lv_iconst (v := (0 : Int32)) hx hb dX12_parts_0 (by decide) ?_
  refine lv_topi (fun x_6 ex_6 => ?_)
  have h := h x_6 ex_6
  refine lv_istore_n (lv' := [(2, .int x_6), (0, .ref (ad 0)), (1, .int x1)]) hx hb dX12_parts_1 rfl hl (by decide) rfl (fun ls hl => ?_)
  refine lv_iload_n hx hb dX12_parts_2 rfl (lv_at hl 2 rfl) ?_
  refine lv_istore_n (lv' := [(3, .int x1), (2, .int x_6), (0, .ref (ad 0)), (1, .int x1)]) hx hb dX12_parts_3 rfl hl (by decide) rfl (fun ls hl => ?_)
  exact w_4 n x_6 x1 g k _ _ _ h hw (lv_sub hl [2, 1, 0] rfl)
def V_X12_parameters_61 (K35 : Int32 → St → StL → Prop) (post : Int32 → St → StL → Prop) : Nat → Int32 → Int32 → St → StL → Prop
  | 0, _, _, _, _ => False
  | n + 1, x2, x3, g, k => ((x3 = (1048576 : Int32) → V_X12_cdr x2 g k (fun r_4 g_2 k_3 => K35 r_4 g_2 k_3)) ∧ (¬ x3 = (1048576 : Int32) → V_X12_car x3 g k (fun r_7 g_5 k_6 => V_X12_car x2 g_5 k_6 (fun r_10 g_8 k_9 => ((¬ r_7 = r_10 → V_X12_cdr x3 g_8 k_9 (fun r_14 g_12 k_13 => V_X12_parameters_61 K35 post n x2 r_14 g_12 k_13)) ∧ (r_7 = r_10 → post (0 : Int32) g_8 k_9))))))
def V_X12_parameters_35 (post : Int32 → St → StL → Prop) : Nat → Int32 → St → StL → Prop
  | 0, _, _, _ => False
  | n + 1, x2, g, k => ((x2 = (1048576 : Int32) → post (1 : Int32) g k) ∧ (¬ x2 = (1048576 : Int32) → V_X12_car x2 g k (fun r_18 g_16 k_17 => V_X12_sortOf r_18 (fun r_19 => ((r_19 = (3 : Int32) → V_X12_cdr x2 g_16 k_17 (fun r_23 g_21 k_22 => V_X12_parameters_61 (fun x2 g k => V_X12_parameters_35 post n x2 g k) post n x2 r_23 g_21 k_22)) ∧ (¬ r_19 = (3 : Int32) → post (0 : Int32) g_16 k_17))))))
def V_X12_parameters_14 (post : Int32 → St → StL → Prop) (n : Nat) (x1 : Int32) (g : St) (k : StL) : Prop := V_X12_sortOf x1 (fun r_24 => ((¬ r_24 = (4 : Int32) → V_X12_parameters_35 post n x1 g k) ∧ (r_24 = (4 : Int32) → V_X12_parts n x1 g k (fun r_28 g_26 k_27 => ((r_28 ≤ (4 : Int32) → V_X12_parameters_35 post n x1 g_26 k_27) ∧ (¬ r_28 ≤ (4 : Int32) → post (0 : Int32) g_26 k_27))))))
def V_X12_parameters (n : Nat) (x1 : Int32) (g : St) (k : StL) (post : Int32 → St → StL → Prop) : Prop := ((x1 = (1048576 : Int32) → V_X12_parameters_14 post n x1 g k) ∧ (¬ x1 = (1048576 : Int32) → V_X12_sortOf x1 (fun r_31 => ((¬ r_31 = (4 : Int32) → post (0 : Int32) g k) ∧ (r_31 = (4 : Int32) → V_X12_parameters_14 post n x1 g k)))))
abbrev RM_X12_parameters : Room := { frames := 3, cells := 0, slots := 0, locals := 64 }
set_option maxHeartbeats 4000000 in
set_option maxRecDepth 100000 in
theorem m_X12_parameters (l : Launch) (D : va_G) (cI cC cZ cJ : ClassId) (ad : Nat → Nat) (n : Nat) (x1 : Int32) (g : St) (k : StL) {post : Int32 → St → StL → Prop} (h : V_X12_parameters n x1 g k post) : MetI l yX12_parameters cX12_parameters 4 .boolean RM_X12_parameters D (ty4 cI cC cZ cJ) (wM ad cI cC cZ cJ g k) [.ref (ad 0), .int x1] (fun u : St × StL => (wM ad cI cC cZ cJ u.1 u.2)) (fun (r : Int32) (u : St × StL) => post r u.1 u.2) := by
  refine mkI (by decide) (Nat.le_of_ble_eq_true rfl) ?_
  intro p e s m args below meth c A ls hC hr hlk hw hl
  have hx := hC.1
  have hb := hC.2.1
  have hl : lv_has ls 4 [(0, .ref (ad 0)), (1, .int x1)] := hl
  have w_61 : ∀ (K35 : Int32 → St → StL → Prop) (hK35 : ∀ (x2 : Int32) (g : St) (k : StL) (H : Heap) (locs : List Loc) (ls : Array Slot), K35 x2 g k → Wd D (ty4 cI cC cZ cJ) A s (wM ad cI cC cZ cJ g k) H locs → lv_has ls 4 [(0, .ref (ad 0)), (2, .int x2)] → W p l e RM_X12_parameters s m args below meth c H locs 0 0 (QI below D (ty4 cI cC cZ cJ) A args s (fun u : St × StL => (wM ad cI cC cZ cJ u.1 u.2)) (fun (r : Int32) (u : St × StL) => post r u.1 u.2)) (F0 m 35 ls [])) (n : Nat) (x2 : Int32) (x3 : Int32) (g : St) (k : StL) (H : Heap) (locs : List Loc) (ls : Array Slot), V_X12_parameters_61 K35 post n x2 x3 g k → Wd D (ty4 cI cC cZ cJ) A s (wM ad cI cC cZ cJ g k) H locs → lv_has ls 4 [(0, .ref (ad 0)), (2, .int x2), (3, .int x3)] → W p l e RM_X12_parameters s m args below meth c H locs 0 0 (QI below D (ty4 cI cC cZ cJ) A args s (fun u : St × StL => (wM ad cI cC cZ cJ u.1 u.2)) (fun (r : Int32) (u : St × StL) => post r u.1 u.2)) (F0 m 61 ls []) := by
    intro K35 hK35 n
    induction n with
    | zero =>
      intro x2 x3 g k H locs ls h
      exact False.elim h
    | succ n ih =>
      intro x2 x3 g k H locs ls h hw hl
      rw [V_X12_parameters_61] at h
      refine lv_iload_n hx hb dX12_parameters_61 rfl (lv_at hl 2 rfl) ?_
      refine lv_ldc (v := (1048576 : Int32)) hx hb hC.2.2.2.1 (hC.2.2.2.2 _ (List.mem_cons_of_mem _ kcX12_184)) dX12_parameters_62 ?_
      refine lv_icmp_eq (tgt := 91) hx hb dX12_parameters_64 (by decide) (fun c_1 => ?_) (fun c_1 => ?_)
      · have h := h.1 c_1
        refine lv_aload_n hx hb dX12_parameters_91 rfl (lv_at hl 0 rfl) ?_
        refine lv_iload_n hx hb dX12_parameters_92 rfl (lv_at hl 1 rfl) ?_
        refine cVIw (q0 := 0) kmX12_251 hC hw (m_X12_cdr l D cI cC cZ cJ ad x2 g k h) rfl rfl ⟨by decide, by decide⟩ rfl rfl rfl hl.1 (Nat.le_of_ble_eq_true rfl) dX12_parameters_93 ⟨Nat.zero_le _, Nat.zero_le _⟩ rfl ?_
        intro r_4 u H locs h hw
        obtain ⟨g_2, k_3⟩ := u
        dsimp only at h hw
        refine lv_istore_n (lv' := [(2, .int r_4), (0, .ref (ad 0)), (3, .int x3)]) hx hb dX12_parameters_96 rfl hl (by decide) rfl (fun ls hl => ?_)
        refine lv_goto (tgt := 35) hx hb dX12_parameters_97 (by decide) ?_
        exact hK35 r_4 g_2 k_3 _ _ _ h hw (lv_sub hl [1, 0] rfl)
      · have h := h.2 c_1
        refine lv_aload_n hx hb dX12_parameters_67 rfl (lv_at hl 0 rfl) ?_
        refine lv_iload_n hx hb dX12_parameters_68 rfl (lv_at hl 2 rfl) ?_
        refine cVIw (q0 := 0) kmX12_260 hC hw (m_X12_car l D cI cC cZ cJ ad x3 g k h) rfl rfl ⟨by decide, by decide⟩ rfl rfl rfl hl.1 (Nat.le_of_ble_eq_true rfl) dX12_parameters_69 ⟨Nat.zero_le _, Nat.zero_le _⟩ rfl ?_
        intro r_7 u H locs h hw
        obtain ⟨g_5, k_6⟩ := u
        dsimp only at h hw
        refine lv_aload_n hx hb dX12_parameters_72 rfl (lv_at hl 0 rfl) ?_
        refine lv_iload_n hx hb dX12_parameters_73 rfl (lv_at hl 1 rfl) ?_
        refine cVIw (q0 := 0) kmX12_260 hC hw (m_X12_car l D cI cC cZ cJ ad x2 g_5 k_6 h) rfl rfl ⟨by decide, by decide⟩ rfl rfl rfl hl.1 (Nat.le_of_ble_eq_true rfl) dX12_parameters_74 ⟨Nat.zero_le _, Nat.zero_le _⟩ rfl ?_
        intro r_10 u H locs h hw
        obtain ⟨g_8, k_9⟩ := u
        dsimp only at h hw
        refine lv_icmp_ne (tgt := 82) hx hb dX12_parameters_77 (by decide) (fun c_11 => ?_) (fun c_11 => ?_)
        · have h := h.1 c_11
          refine lv_aload_n hx hb dX12_parameters_82 rfl (lv_at hl 0 rfl) ?_
          refine lv_iload_n hx hb dX12_parameters_83 rfl (lv_at hl 2 rfl) ?_
          refine cVIw (q0 := 0) kmX12_251 hC hw (m_X12_cdr l D cI cC cZ cJ ad x3 g_8 k_9 h) rfl rfl ⟨by decide, by decide⟩ rfl rfl rfl hl.1 (Nat.le_of_ble_eq_true rfl) dX12_parameters_84 ⟨Nat.zero_le _, Nat.zero_le _⟩ rfl ?_
          intro r_14 u H locs h hw
          obtain ⟨g_12, k_13⟩ := u
          dsimp only at h hw
          refine lv_istore_n (lv' := [(3, .int r_14), (0, .ref (ad 0)), (2, .int x2)]) hx hb dX12_parameters_87 rfl hl (by decide) rfl (fun ls hl => ?_)
          refine lv_goto (tgt := 61) hx hb dX12_parameters_88 (by decide) ?_
          exact ih x2 r_14 g_12 k_13 _ _ _ h hw (lv_sub hl [1, 2, 0] rfl)
        · have h := h.2 c_11
          refine lv_iconst (v := (0 : Int32)) hx hb dX12_parameters_80 (by decide) ?_
          exact rtI (wf := (fun u : St × StL => (wM ad cI cC cZ cJ u.1 u.2))) (g_8, k_9) hC hr hlk hw (by decide) h dX12_parameters_81
  have w_35 : ∀ (n : Nat) (x2 : Int32) (g : St) (k : StL) (H : Heap) (locs : List Loc) (ls : Array Slot), V_X12_parameters_35 post n x2 g k → Wd D (ty4 cI cC cZ cJ) A s (wM ad cI cC cZ cJ g k) H locs → lv_has ls 4 [(0, .ref (ad 0)), (2, .int x2)] → W p l e RM_X12_parameters s m args below meth c H locs 0 0 (QI below D (ty4 cI cC cZ cJ) A args s (fun u : St × StL => (wM ad cI cC cZ cJ u.1 u.2)) (fun (r : Int32) (u : St × StL) => post r u.1 u.2)) (F0 m 35 ls []) := by
    intro n
    induction n with
    | zero =>
      intro x2 g k H locs ls h
      exact False.elim h
    | succ n ih =>
      intro x2 g k H locs ls h hw hl
      rw [V_X12_parameters_35] at h
      refine lv_iload_n hx hb dX12_parameters_35 rfl (lv_at hl 1 rfl) ?_
      refine lv_ldc (v := (1048576 : Int32)) hx hb hC.2.2.2.1 (hC.2.2.2.2 _ (List.mem_cons_of_mem _ kcX12_184)) dX12_parameters_36 ?_
      refine lv_icmp_eq (tgt := 100) hx hb dX12_parameters_38 (by decide) (fun c_15 => ?_) (fun c_15 => ?_)
      · have h := h.1 c_15
        refine lv_iconst (v := (1 : Int32)) hx hb dX12_parameters_100 (by decide) ?_
        exact rtI (wf := (fun u : St × StL => (wM ad cI cC cZ cJ u.1 u.2))) (g, k) hC hr hlk hw (by decide) h dX12_parameters_101
      · have h := h.2 c_15
        refine lv_aload_n hx hb dX12_parameters_41 rfl (lv_at hl 0 rfl) ?_
        refine lv_iload_n hx hb dX12_parameters_42 rfl (lv_at hl 1 rfl) ?_
        refine cVIw (q0 := 0) kmX12_260 hC hw (m_X12_car l D cI cC cZ cJ ad x2 g k h) rfl rfl ⟨by decide, by decide⟩ rfl rfl rfl hl.1 (Nat.le_of_ble_eq_true rfl) dX12_parameters_43 ⟨Nat.zero_le _, Nat.zero_le _⟩ rfl ?_
        intro r_18 u H locs h hw
        obtain ⟨g_16, k_17⟩ := u
        dsimp only at h hw
        refine cSI ksX12_254 hC (m_X12_sortOf l r_18 h) rfl rfl ⟨by decide, by decide⟩ rfl hl.1 (Nat.le_of_ble_eq_true rfl) dX12_parameters_46 ⟨Nat.zero_le _, Nat.zero_le _⟩ rfl ?_
        intro r_19 h
        refine lv_iconst (v := (3 : Int32)) hx hb dX12_parameters_49 (by decide) ?_
        refine lv_icmp_eq (tgt := 55) hx hb dX12_parameters_50 (by decide) (fun c_20 => ?_) (fun c_20 => ?_)
        · have h := h.1 c_20
          refine lv_aload_n hx hb dX12_parameters_55 rfl (lv_at hl 0 rfl) ?_
          refine lv_iload_n hx hb dX12_parameters_56 rfl (lv_at hl 1 rfl) ?_
          refine cVIw (q0 := 0) kmX12_251 hC hw (m_X12_cdr l D cI cC cZ cJ ad x2 g_16 k_17 h) rfl rfl ⟨by decide, by decide⟩ rfl rfl rfl hl.1 (Nat.le_of_ble_eq_true rfl) dX12_parameters_57 ⟨Nat.zero_le _, Nat.zero_le _⟩ rfl ?_
          intro r_23 u H locs h hw
          obtain ⟨g_21, k_22⟩ := u
          dsimp only at h hw
          refine lv_istore_n (lv' := [(3, .int r_23), (0, .ref (ad 0)), (2, .int x2)]) hx hb dX12_parameters_60 rfl hl (by decide) rfl (fun ls hl => ?_)
          exact w_61 _ ih n x2 r_23 g_21 k_22 _ _ _ h hw (lv_sub hl [1, 2, 0] rfl)
        · have h := h.2 c_20
          refine lv_iconst (v := (0 : Int32)) hx hb dX12_parameters_53 (by decide) ?_
          exact rtI (wf := (fun u : St × StL => (wM ad cI cC cZ cJ u.1 u.2))) (g_16, k_17) hC hr hlk hw (by decide) h dX12_parameters_54
  have w_14 : ∀ (n : Nat) (x1 : Int32) (g : St) (k : StL) (H : Heap) (locs : List Loc) (ls : Array Slot), V_X12_parameters_14 post n x1 g k → Wd D (ty4 cI cC cZ cJ) A s (wM ad cI cC cZ cJ g k) H locs → lv_has ls 4 [(0, .ref (ad 0)), (1, .int x1)] → W p l e RM_X12_parameters s m args below meth c H locs 0 0 (QI below D (ty4 cI cC cZ cJ) A args s (fun u : St × StL => (wM ad cI cC cZ cJ u.1 u.2)) (fun (r : Int32) (u : St × StL) => post r u.1 u.2)) (F0 m 14 ls []) := by
    intro n x1 g k H locs ls h hw hl
    unfold V_X12_parameters_14 at h
    refine lv_iload_n hx hb dX12_parameters_14 rfl (lv_at hl 1 rfl) ?_
    refine cSI ksX12_254 hC (m_X12_sortOf l x1 h) rfl rfl ⟨by decide, by decide⟩ rfl hl.1 (Nat.le_of_ble_eq_true rfl) dX12_parameters_15 ⟨Nat.zero_le _, Nat.zero_le _⟩ rfl ?_
    intro r_24 h
    refine lv_iconst (v := (4 : Int32)) hx hb dX12_parameters_18 (by decide) ?_
    refine lv_icmp_ne (tgt := 33) hx hb dX12_parameters_19 (by decide) (fun c_25 => ?_) (fun c_25 => ?_)
    · have h := h.1 c_25
      refine lv_iload_n hx hb dX12_parameters_33 rfl (lv_at hl 1 rfl) ?_
      refine lv_istore_n (lv' := [(2, .int x1), (0, .ref (ad 0)), (1, .int x1)]) hx hb dX12_parameters_34 rfl hl (by decide) rfl (fun ls hl => ?_)
      exact w_35 n x1 g k _ _ _ h hw (lv_sub hl [1, 0] rfl)
    · have h := h.2 c_25
      refine lv_aload_n hx hb dX12_parameters_22 rfl (lv_at hl 0 rfl) ?_
      refine lv_iload_n hx hb dX12_parameters_23 rfl (lv_at hl 1 rfl) ?_
      refine cVIw (q0 := 0) kmX12_257 hC hw (m_X12_parts l D cI cC cZ cJ ad n x1 g k h) rfl rfl ⟨by decide, by decide⟩ rfl rfl rfl hl.1 (Nat.le_of_ble_eq_true rfl) dX12_parameters_24 ⟨Nat.zero_le _, Nat.zero_le _⟩ rfl ?_
      intro r_28 u H locs h hw
      obtain ⟨g_26, k_27⟩ := u
      dsimp only at h hw
      refine lv_iconst (v := (4 : Int32)) hx hb dX12_parameters_27 (by decide) ?_
      refine lv_icmp_le (tgt := 33) hx hb dX12_parameters_28 (by decide) (fun c_29 => ?_) (fun c_29 => ?_)
      · have h := h.1 c_29
        refine lv_iload_n hx hb dX12_parameters_33 rfl (lv_at hl 1 rfl) ?_
        refine lv_istore_n (lv' := [(2, .int x1), (0, .ref (ad 0)), (1, .int x1)]) hx hb dX12_parameters_34 rfl hl (by decide) rfl (fun ls hl => ?_)
        exact w_35 n x1 g_26 k_27 _ _ _ h hw (lv_sub hl [1, 0] rfl)
      · have h := h.2 c_29
        refine lv_iconst (v := (0 : Int32)) hx hb dX12_parameters_31 (by decide) ?_
        exact rtI (wf := (fun u : St × StL => (wM ad cI cC cZ cJ u.1 u.2))) (g_26, k_27) hC hr hlk hw (by decide) h dX12_parameters_32
  unfold V_X12_parameters at h
  refine lv_iload_n hx hb dX12_parameters_0 rfl (lv_at hl 1 rfl) ?_
  refine lv_ldc (v := (1048576 : Int32)) hx hb hC.2.2.2.1 (hC.2.2.2.2 _ (List.mem_cons_of_mem _ kcX12_184)) dX12_parameters_1 ?_
  refine lv_icmp_eq (tgt := 14) hx hb dX12_parameters_3 (by decide) (fun c_30 => ?_) (fun c_30 => ?_)
  · have h := h.1 c_30
    exact w_14 n x1 g k _ _ _ h hw (lv_sub hl [0, 1] rfl)
  · have h := h.2 c_30
    refine lv_iload_n hx hb dX12_parameters_6 rfl (lv_at hl 1 rfl) ?_
    refine cSI ksX12_254 hC (m_X12_sortOf l x1 h) rfl rfl ⟨by decide, by decide⟩ rfl hl.1 (Nat.le_of_ble_eq_true rfl) dX12_parameters_7 ⟨Nat.zero_le _, Nat.zero_le _⟩ rfl ?_
    intro r_31 h
    refine lv_iconst (v := (4 : Int32)) hx hb dX12_parameters_10 (by decide) ?_
    refine lv_icmp_ne (tgt := 31) hx hb dX12_parameters_11 (by decide) (fun c_32 => ?_) (fun c_32 => ?_)
    · have h := h.1 c_32
      refine lv_iconst (v := (0 : Int32)) hx hb dX12_parameters_31 (by decide) ?_
      exact rtI (wf := (fun u : St × StL => (wM ad cI cC cZ cJ u.1 u.2))) (g, k) hC hr hlk hw (by decide) h dX12_parameters_32
    · have h := h.2 c_32
      exact w_14 n x1 g k _ _ _ h hw (lv_sub hl [0, 1] rfl)
def V_X12_wellFormed_196 (K9 : Int32 → St → StL → Prop) (post : Int32 → St → StL → Prop) : Nat → Int32 → Int32 → St → StL → Prop
  | 0, _, _, _, _ => False
  | n + 1, x2, x7, g, k => ((x7 = (1048576 : Int32) → K9 x2 g k) ∧ (¬ x7 = (1048576 : Int32) → V_X12_car x7 g k (fun r_4 g_2 k_3 => (vp_in x2 1100 ∧ ∀ g_5 : St, g_5 = up g_2 22 x2.toNatClampNeg r_4 → ∀ x_6 : Int32, x_6 = x2 + (1 : Int32) → V_X12_cdr x7 g_5 k_3 (fun r_9 g_7 k_8 => V_X12_wellFormed_196 K9 post n x_6 r_9 g_7 k_8)))))
def V_X12_wellFormed_140 (K9 : Int32 → St → StL → Prop) (post : Int32 → St → StL → Prop) (n : Nat) (x2 : Int32) (x3 : Int32) (x4 : Int32) (g : St) (k : StL) : Prop := ((¬ x4 = (31 : Int32) → ((¬ x4 = 0 → ((x4 = (3 : Int32) → V_X12_cdr x3 g k (fun r_15 g_13 k_14 => V_X12_cdr r_15 g_13 k_14 (fun r_18 g_16 k_17 => V_X12_wellFormed_196 K9 post n x2 r_18 g_16 k_17))) ∧ (¬ x4 = (3 : Int32) → ((¬ x4 = (5 : Int32) → V_X12_cdr x3 g k (fun r_22 g_20 k_21 => V_X12_wellFormed_196 K9 post n x2 r_22 g_20 k_21)) ∧ (x4 = (5 : Int32) → V_X12_cdr x3 g k (fun r_25 g_23 k_24 => V_X12_cdr r_25 g_23 k_24 (fun r_28 g_26 k_27 => V_X12_wellFormed_196 K9 post n x2 r_28 g_26 k_27))))))) ∧ (x4 = 0 → ∀ x_29 : Int32, x_29 = (1048576 : Int32) → V_X12_wellFormed_196 K9 post n x2 x_29 g k))) ∧ (x4 = (31 : Int32) → V_X12_wellFormed_196 K9 post n x2 x3 g k))
def V_X12_wellFormed_116 (K9 : Int32 → St → StL → Prop) (post : Int32 → St → StL → Prop) (n : Nat) (x2 : Int32) (x3 : Int32) (x4 : Int32) (g : St) (k : StL) : Prop := ((¬ x4 = (5 : Int32) → V_X12_wellFormed_140 K9 post n x2 x3 x4 g k) ∧ (x4 = (5 : Int32) → V_X12_cdr x3 g k (fun r_33 g_31 k_32 => V_X12_car r_33 g_31 k_32 (fun r_36 g_34 k_35 => V_X12_parameters n r_36 g_34 k_35 (fun r_39 g_37 k_38 => ((¬ r_39 = 0 → V_X12_wellFormed_140 K9 post n x2 x3 x4 g_37 k_38) ∧ (r_39 = 0 → post (0 : Int32) g_37 k_38)))))))
def V_X12_wellFormed_94 (K9 : Int32 → St → StL → Prop) (post : Int32 → St → StL → Prop) (n : Nat) (x2 : Int32) (x3 : Int32) (x4 : Int32) (g : St) (k : StL) : Prop := ((¬ x4 = (3 : Int32) → V_X12_wellFormed_116 K9 post n x2 x3 x4 g k) ∧ (x4 = (3 : Int32) → V_X12_cdr x3 g k (fun r_44 g_42 k_43 => V_X12_car r_44 g_42 k_43 (fun r_47 g_45 k_46 => V_X12_sortOf r_47 (fun r_48 => ((¬ r_48 = (3 : Int32) → post (0 : Int32) g_45 k_46) ∧ (r_48 = (3 : Int32) → V_X12_wellFormed_116 K9 post n x2 x3 x4 g_45 k_46)))))))
def V_X12_wellFormed_9 (post : Int32 → St → StL → Prop) : Nat → Int32 → St → StL → Prop
  | 0, _, _, _ => False
  | n + 1, x2, g, k => ((x2 ≤ 0 → post (1 : Int32) g k) ∧ (¬ x2 ≤ 0 → ∀ x_51 : Int32, x_51 = x2 + (-1 : Int32) → (vp_in x_51 1100 ∧ ∀ x_52 : Int32, x_52 = (g 22 x_51.toNatClampNeg) → V_X12_sortOf x_52 (fun r_53 => ((r_53 = (4 : Int32) → V_X12_opOf x_52 g k (fun r_57 g_55 k_56 => V_X12_cdr x_52 g_55 k_56 (fun r_60 g_58 k_59 => V_X12_parts n r_60 g_58 k_59 (fun r_63 g_61 k_62 => ((¬ r_57 = (31 : Int32) → (vp_in r_57 31 ∧ ((r_63 < (g_61 4 r_57.toNatClampNeg) → post (0 : Int32) g_61 k_62) ∧ (¬ r_63 < (g_61 4 r_57.toNatClampNeg) → (vp_in r_57 31 ∧ ((r_63 ≤ (g_61 5 r_57.toNatClampNeg) → V_X12_wellFormed_94 (fun x2 g k => V_X12_wellFormed_9 post n x2 g k) post n x_51 x_52 r_57 g_61 k_62) ∧ (¬ r_63 ≤ (g_61 5 r_57.toNatClampNeg) → post (0 : Int32) g_61 k_62))))))) ∧ (r_57 = (31 : Int32) → ((r_63 ≤ (4 : Int32) → V_X12_wellFormed_94 (fun x2 g k => V_X12_wellFormed_9 post n x2 g k) post n x_51 x_52 r_57 g_61 k_62) ∧ (¬ r_63 ≤ (4 : Int32) → post (0 : Int32) g_61 k_62)))))))) ∧ (¬ r_53 = (4 : Int32) → V_X12_wellFormed_9 post n x_51 g k))))))
def V_X12_wellFormed (n : Nat) (x1 : Int32) (g : St) (k : StL) (post : Int32 → St → StL → Prop) : Prop := ∀ x_68 : Int32, x_68 = (1 : Int32) → (vp_in (0 : Int32) 1100 ∧ ∀ g_69 : St, g_69 = up g 22 (0 : Int32).toNatClampNeg x1 → V_X12_wellFormed_9 post n x_68 g_69 k)
abbrev RM_X12_wellFormed : Room := { frames := 4, cells := 0, slots := 0, locals := 87 }
set_option maxHeartbeats 4000000 in
set_option maxRecDepth 100000 in
theorem m_X12_wellFormed (l : Launch) (D : va_G) (cI cC cZ cJ : ClassId) (ad : Nat → Nat) (n : Nat) (x1 : Int32) (g : St) (k : StL) {post : Int32 → St → StL → Prop} (h : V_X12_wellFormed n x1 g k post) : MetI l yX12_wellFormed cX12_wellFormed 8 .boolean RM_X12_wellFormed D (ty4 cI cC cZ cJ) (wM ad cI cC cZ cJ g k) [.ref (ad 0), .int x1] (fun u : St × StL => (wM ad cI cC cZ cJ u.1 u.2)) (fun (r : Int32) (u : St × StL) => post r u.1 u.2) := by
  refine mkI (by decide) (Nat.le_of_ble_eq_true rfl) ?_
  intro p e s m args below meth c A ls hC hr hlk hw hl
  have hx := hC.1
  have hb := hC.2.1
  have hl : lv_has ls 8 [(0, .ref (ad 0)), (1, .int x1)] := hl
  have w_196 : ∀ (K9 : Int32 → St → StL → Prop) (hK9 : ∀ (x2 : Int32) (g : St) (k : StL) (H : Heap) (locs : List Loc) (ls : Array Slot), K9 x2 g k → Wd D (ty4 cI cC cZ cJ) A s (wM ad cI cC cZ cJ g k) H locs → lv_has ls 8 [(0, .ref (ad 0)), (2, .int x2)] → W p l e RM_X12_wellFormed s m args below meth c H locs 0 0 (QI below D (ty4 cI cC cZ cJ) A args s (fun u : St × StL => (wM ad cI cC cZ cJ u.1 u.2)) (fun (r : Int32) (u : St × StL) => post r u.1 u.2)) (F0 m 9 ls [])) (n : Nat) (x2 : Int32) (x7 : Int32) (g : St) (k : StL) (H : Heap) (locs : List Loc) (ls : Array Slot), V_X12_wellFormed_196 K9 post n x2 x7 g k → Wd D (ty4 cI cC cZ cJ) A s (wM ad cI cC cZ cJ g k) H locs → lv_has ls 8 [(0, .ref (ad 0)), (2, .int x2), (7, .int x7)] → W p l e RM_X12_wellFormed s m args below meth c H locs 0 0 (QI below D (ty4 cI cC cZ cJ) A args s (fun u : St × StL => (wM ad cI cC cZ cJ u.1 u.2)) (fun (r : Int32) (u : St × StL) => post r u.1 u.2)) (F0 m 196 ls []) := by
    intro K9 hK9 n
    induction n with
    | zero =>
      intro x2 x7 g k H locs ls h
      exact False.elim h
    | succ n ih =>
      intro x2 x7 g k H locs ls h hw hl
      rw [V_X12_wellFormed_196] at h
      refine lv_iload hx hb dX12_wellFormed_196 (lv_at hl 2 rfl) ?_
      refine lv_ldc (v := (1048576 : Int32)) hx hb hC.2.2.2.1 (hC.2.2.2.2 _ (List.mem_cons_of_mem _ kcX12_184)) dX12_wellFormed_198 ?_
      refine lv_icmp_eq (tgt := 229) hx hb dX12_wellFormed_200 (by decide) (fun c_1 => ?_) (fun c_1 => ?_)
      · have h := h.1 c_1
        refine lv_goto (tgt := 9) hx hb dX12_wellFormed_229 (by decide) ?_
        exact hK9 x2 g k _ _ _ h hw (lv_sub hl [0, 1] rfl)
      · have h := h.2 c_1
        refine lv_aload_n hx hb dX12_wellFormed_203 rfl (lv_at hl 0 rfl) ?_
        refine gt (v := .ref (ad 24)) kfX12_143 0 hC hw rfl rfl dX12_wellFormed_204 ?_
        refine lv_iload_n hx hb dX12_wellFormed_207 rfl (lv_at hl 1 rfl) ?_
        refine lv_aload_n hx hb dX12_wellFormed_208 rfl (lv_at hl 0 rfl) ?_
        refine lv_iload hx hb dX12_wellFormed_209 (lv_at hl 2 rfl) ?_
        refine cVIw (q0 := 0) kmX12_260 hC hw (m_X12_car l D cI cC cZ cJ ad x7 g k h) rfl rfl ⟨by decide, by decide⟩ rfl rfl rfl hl.1 (Nat.le_of_ble_eq_true rfl) dX12_wellFormed_211 ⟨Nat.zero_le _, Nat.zero_le _⟩ rfl ?_
        intro r_4 u H locs h hw
        obtain ⟨g_2, k_3⟩ := u
        dsimp only at h hw
        refine swM_24 h.1 hC hw dX12_wellFormed_214 (fun H locs g_5 eg_5 hw => ?_)
        have h := h.2 g_5 eg_5
        obtain ⟨x_6, ex_6⟩ : ∃ y : Int32, y = x2 + (1 : Int32) := ⟨_, rfl⟩
        have h := h x_6 ex_6
        refine lv_iinc (v := x_6) (lv' := [(2, .int x_6), (0, .ref (ad 0)), (7, .int x7)]) hx hb dX12_wellFormed_215 hl (k := 1) rfl (by rw [ex_6]; rfl) (by decide) rfl (fun ls hl => ?_)
        refine lv_aload_n hx hb dX12_wellFormed_218 rfl (lv_at hl 1 rfl) ?_
        refine lv_iload hx hb dX12_wellFormed_219 (lv_at hl 2 rfl) ?_
        refine cVIw (q0 := 0) kmX12_251 hC hw (m_X12_cdr l D cI cC cZ cJ ad x7 g_5 k_3 h) rfl rfl ⟨by decide, by decide⟩ rfl rfl rfl hl.1 (Nat.le_of_ble_eq_true rfl) dX12_wellFormed_221 ⟨Nat.zero_le _, Nat.zero_le _⟩ rfl ?_
        intro r_9 u H locs h hw
        obtain ⟨g_7, k_8⟩ := u
        dsimp only at h hw
        refine lv_istore (lv' := [(7, .int r_9), (2, .int x_6), (0, .ref (ad 0))]) hx hb dX12_wellFormed_224 hl (by decide) rfl (fun ls hl => ?_)
        refine lv_goto (tgt := 196) hx hb dX12_wellFormed_226 (by decide) ?_
        exact ih x_6 r_9 g_7 k_8 _ _ _ h hw (lv_sub hl [2, 1, 0] rfl)
  have w_140 : ∀ (K9 : Int32 → St → StL → Prop) (hK9 : ∀ (x2 : Int32) (g : St) (k : StL) (H : Heap) (locs : List Loc) (ls : Array Slot), K9 x2 g k → Wd D (ty4 cI cC cZ cJ) A s (wM ad cI cC cZ cJ g k) H locs → lv_has ls 8 [(0, .ref (ad 0)), (2, .int x2)] → W p l e RM_X12_wellFormed s m args below meth c H locs 0 0 (QI below D (ty4 cI cC cZ cJ) A args s (fun u : St × StL => (wM ad cI cC cZ cJ u.1 u.2)) (fun (r : Int32) (u : St × StL) => post r u.1 u.2)) (F0 m 9 ls [])) (n : Nat) (x2 : Int32) (x3 : Int32) (x4 : Int32) (g : St) (k : StL) (H : Heap) (locs : List Loc) (ls : Array Slot), V_X12_wellFormed_140 K9 post n x2 x3 x4 g k → Wd D (ty4 cI cC cZ cJ) A s (wM ad cI cC cZ cJ g k) H locs → lv_has ls 8 [(0, .ref (ad 0)), (2, .int x2), (3, .int x3), (4, .int x4)] → W p l e RM_X12_wellFormed s m args below meth c H locs 0 0 (QI below D (ty4 cI cC cZ cJ) A args s (fun u : St × StL => (wM ad cI cC cZ cJ u.1 u.2)) (fun (r : Int32) (u : St × StL) => post r u.1 u.2)) (F0 m 140 ls []) := by
    intro K9 hK9 n x2 x3 x4 g k H locs ls h hw hl
    unfold V_X12_wellFormed_140 at h
    refine lv_iload hx hb dX12_wellFormed_140 (lv_at hl 3 rfl) ?_
    refine lv_bipush (v := (31 : Int32)) hx hb dX12_wellFormed_142 (by decide) ?_
    refine lv_icmp_ne (tgt := 151) hx hb dX12_wellFormed_144 (by decide) (fun c_10 => ?_) (fun c_10 => ?_)
    · have h := h.1 c_10
      refine lv_iload hx hb dX12_wellFormed_151 (lv_at hl 3 rfl) ?_
      refine lv_if_ne (tgt := 161) hx hb dX12_wellFormed_153 (by decide) (fun c_11 => ?_) (fun c_11 => ?_)
      · have h := h.1 c_11
        refine lv_iload hx hb dX12_wellFormed_161 (lv_at hl 3 rfl) ?_
        refine lv_iconst (v := (3 : Int32)) hx hb dX12_wellFormed_163 (by decide) ?_
        refine lv_icmp_eq (tgt := 173) hx hb dX12_wellFormed_164 (by decide) (fun c_12 => ?_) (fun c_12 => ?_)
        · have h := h.1 c_12
          refine lv_aload_n hx hb dX12_wellFormed_173 rfl (lv_at hl 0 rfl) ?_
          refine lv_aload_n hx hb dX12_wellFormed_174 rfl (lv_at hl 0 rfl) ?_
          refine lv_iload_n hx hb dX12_wellFormed_175 rfl (lv_at hl 2 rfl) ?_
          refine cVIw (q0 := 0) kmX12_251 hC hw (m_X12_cdr l D cI cC cZ cJ ad x3 g k h) rfl rfl ⟨by decide, by decide⟩ rfl rfl rfl hl.1 (Nat.le_of_ble_eq_true rfl) dX12_wellFormed_176 ⟨Nat.zero_le _, Nat.zero_le _⟩ rfl ?_
          intro r_15 u H locs h hw
          obtain ⟨g_13, k_14⟩ := u
          dsimp only at h hw
          refine cVIw (q0 := 0) kmX12_251 hC hw (m_X12_cdr l D cI cC cZ cJ ad r_15 g_13 k_14 h) rfl rfl ⟨by decide, by decide⟩ rfl rfl rfl hl.1 (Nat.le_of_ble_eq_true rfl) dX12_wellFormed_179 ⟨Nat.zero_le _, Nat.zero_le _⟩ rfl ?_
          intro r_18 u H locs h hw
          obtain ⟨g_16, k_17⟩ := u
          dsimp only at h hw
          refine lv_goto (tgt := 190) hx hb dX12_wellFormed_182 (by decide) ?_
          refine lv_istore (lv' := [(6, .int r_18), (0, .ref (ad 0)), (2, .int x2), (3, .int x3), (4, .int x4)]) hx hb dX12_wellFormed_190 hl (by decide) rfl (fun ls hl => ?_)
          refine lv_iload hx hb dX12_wellFormed_192 (lv_at hl 0 rfl) ?_
          refine lv_istore (lv' := [(7, .int r_18), (6, .int r_18), (0, .ref (ad 0)), (2, .int x2), (3, .int x3), (4, .int x4)]) hx hb dX12_wellFormed_194 hl (by decide) rfl (fun ls hl => ?_)
          exact w_196 _ hK9 n x2 r_18 g_16 k_17 _ _ _ h hw (lv_sub hl [2, 3, 0] rfl)
        · have h := h.2 c_12
          refine lv_iload hx hb dX12_wellFormed_167 (lv_at hl 3 rfl) ?_
          refine lv_iconst (v := (5 : Int32)) hx hb dX12_wellFormed_169 (by decide) ?_
          refine lv_icmp_ne (tgt := 185) hx hb dX12_wellFormed_170 (by decide) (fun c_19 => ?_) (fun c_19 => ?_)
          · have h := h.1 c_19
            refine lv_aload_n hx hb dX12_wellFormed_185 rfl (lv_at hl 0 rfl) ?_
            refine lv_iload_n hx hb dX12_wellFormed_186 rfl (lv_at hl 2 rfl) ?_
            refine cVIw (q0 := 0) kmX12_251 hC hw (m_X12_cdr l D cI cC cZ cJ ad x3 g k h) rfl rfl ⟨by decide, by decide⟩ rfl rfl rfl hl.1 (Nat.le_of_ble_eq_true rfl) dX12_wellFormed_187 ⟨Nat.zero_le _, Nat.zero_le _⟩ rfl ?_
            intro r_22 u H locs h hw
            obtain ⟨g_20, k_21⟩ := u
            dsimp only at h hw
            refine lv_istore (lv' := [(6, .int r_22), (0, .ref (ad 0)), (2, .int x2), (3, .int x3), (4, .int x4)]) hx hb dX12_wellFormed_190 hl (by decide) rfl (fun ls hl => ?_)
            refine lv_iload hx hb dX12_wellFormed_192 (lv_at hl 0 rfl) ?_
            refine lv_istore (lv' := [(7, .int r_22), (6, .int r_22), (0, .ref (ad 0)), (2, .int x2), (3, .int x3), (4, .int x4)]) hx hb dX12_wellFormed_194 hl (by decide) rfl (fun ls hl => ?_)
            exact w_196 _ hK9 n x2 r_22 g_20 k_21 _ _ _ h hw (lv_sub hl [2, 3, 0] rfl)
          · have h := h.2 c_19
            refine lv_aload_n hx hb dX12_wellFormed_173 rfl (lv_at hl 0 rfl) ?_
            refine lv_aload_n hx hb dX12_wellFormed_174 rfl (lv_at hl 0 rfl) ?_
            refine lv_iload_n hx hb dX12_wellFormed_175 rfl (lv_at hl 2 rfl) ?_
            refine cVIw (q0 := 0) kmX12_251 hC hw (m_X12_cdr l D cI cC cZ cJ ad x3 g k h) rfl rfl ⟨by decide, by decide⟩ rfl rfl rfl hl.1 (Nat.le_of_ble_eq_true rfl) dX12_wellFormed_176 ⟨Nat.zero_le _, Nat.zero_le _⟩ rfl ?_
            intro r_25 u H locs h hw
            obtain ⟨g_23, k_24⟩ := u
            dsimp only at h hw
            refine cVIw (q0 := 0) kmX12_251 hC hw (m_X12_cdr l D cI cC cZ cJ ad r_25 g_23 k_24 h) rfl rfl ⟨by decide, by decide⟩ rfl rfl rfl hl.1 (Nat.le_of_ble_eq_true rfl) dX12_wellFormed_179 ⟨Nat.zero_le _, Nat.zero_le _⟩ rfl ?_
            intro r_28 u H locs h hw
            obtain ⟨g_26, k_27⟩ := u
            dsimp only at h hw
            refine lv_goto (tgt := 190) hx hb dX12_wellFormed_182 (by decide) ?_
            refine lv_istore (lv' := [(6, .int r_28), (0, .ref (ad 0)), (2, .int x2), (3, .int x3), (4, .int x4)]) hx hb dX12_wellFormed_190 hl (by decide) rfl (fun ls hl => ?_)
            refine lv_iload hx hb dX12_wellFormed_192 (lv_at hl 0 rfl) ?_
            refine lv_istore (lv' := [(7, .int r_28), (6, .int r_28), (0, .ref (ad 0)), (2, .int x2), (3, .int x3), (4, .int x4)]) hx hb dX12_wellFormed_194 hl (by decide) rfl (fun ls hl => ?_)
            exact w_196 _ hK9 n x2 r_28 g_26 k_27 _ _ _ h hw (lv_sub hl [2, 3, 0] rfl)
      · have h := h.2 c_11
        refine lv_ldc (v := (1048576 : Int32)) hx hb hC.2.2.2.1 (hC.2.2.2.2 _ (List.mem_cons_of_mem _ kcX12_184)) dX12_wellFormed_156 ?_
        refine lv_goto (tgt := 190) hx hb dX12_wellFormed_158 (by decide) ?_
        refine lv_topi (fun x_29 ex_29 => ?_)
        have h := h x_29 ex_29
        refine lv_istore (lv' := [(6, .int x_29), (0, .ref (ad 0)), (2, .int x2), (3, .int x3), (4, .int x4)]) hx hb dX12_wellFormed_190 hl (by decide) rfl (fun ls hl => ?_)
        refine lv_iload hx hb dX12_wellFormed_192 (lv_at hl 0 rfl) ?_
        refine lv_istore (lv' := [(7, .int x_29), (6, .int x_29), (0, .ref (ad 0)), (2, .int x2), (3, .int x3), (4, .int x4)]) hx hb dX12_wellFormed_194 hl (by decide) rfl (fun ls hl => ?_)
        exact w_196 _ hK9 n x2 x_29 g k _ _ _ h hw (lv_sub hl [2, 3, 0] rfl)
    · have h := h.2 c_10
      refine lv_iload_n hx hb dX12_wellFormed_147 rfl (lv_at hl 2 rfl) ?_
      refine lv_goto (tgt := 190) hx hb dX12_wellFormed_148 (by decide) ?_
      refine lv_istore (lv' := [(6, .int x3), (0, .ref (ad 0)), (2, .int x2), (3, .int x3), (4, .int x4)]) hx hb dX12_wellFormed_190 hl (by decide) rfl (fun ls hl => ?_)
      refine lv_iload hx hb dX12_wellFormed_192 (lv_at hl 0 rfl) ?_
      refine lv_istore (lv' := [(7, .int x3), (6, .int x3), (0, .ref (ad 0)), (2, .int x2), (3, .int x3), (4, .int x4)]) hx hb dX12_wellFormed_194 hl (by decide) rfl (fun ls hl => ?_)
      exact w_196 _ hK9 n x2 x3 g k _ _ _ h hw (lv_sub hl [2, 3, 0] rfl)
  have w_116 : ∀ (K9 : Int32 → St → StL → Prop) (hK9 : ∀ (x2 : Int32) (g : St) (k : StL) (H : Heap) (locs : List Loc) (ls : Array Slot), K9 x2 g k → Wd D (ty4 cI cC cZ cJ) A s (wM ad cI cC cZ cJ g k) H locs → lv_has ls 8 [(0, .ref (ad 0)), (2, .int x2)] → W p l e RM_X12_wellFormed s m args below meth c H locs 0 0 (QI below D (ty4 cI cC cZ cJ) A args s (fun u : St × StL => (wM ad cI cC cZ cJ u.1 u.2)) (fun (r : Int32) (u : St × StL) => post r u.1 u.2)) (F0 m 9 ls [])) (n : Nat) (x2 : Int32) (x3 : Int32) (x4 : Int32) (g : St) (k : StL) (H : Heap) (locs : List Loc) (ls : Array Slot), V_X12_wellFormed_116 K9 post n x2 x3 x4 g k → Wd D (ty4 cI cC cZ cJ) A s (wM ad cI cC cZ cJ g k) H locs → lv_has ls 8 [(0, .ref (ad 0)), (2, .int x2), (3, .int x3), (4, .int x4)] → W p l e RM_X12_wellFormed s m args below meth c H locs 0 0 (QI below D (ty4 cI cC cZ cJ) A args s (fun u : St × StL => (wM ad cI cC cZ cJ u.1 u.2)) (fun (r : Int32) (u : St × StL) => post r u.1 u.2)) (F0 m 116 ls []) := by
    intro K9 hK9 n x2 x3 x4 g k H locs ls h hw hl
    unfold V_X12_wellFormed_116 at h
    refine lv_iload hx hb dX12_wellFormed_116 (lv_at hl 3 rfl) ?_
    refine lv_iconst (v := (5 : Int32)) hx hb dX12_wellFormed_118 (by decide) ?_
    refine lv_icmp_ne (tgt := 140) hx hb dX12_wellFormed_119 (by decide) (fun c_30 => ?_) (fun c_30 => ?_)
    · have h := h.1 c_30
      exact w_140 _ hK9 n x2 x3 x4 g k _ _ _ h hw (lv_sub hl [0, 1, 2, 3] rfl)
    · have h := h.2 c_30
      refine lv_aload_n hx hb dX12_wellFormed_122 rfl (lv_at hl 0 rfl) ?_
      refine lv_aload_n hx hb dX12_wellFormed_123 rfl (lv_at hl 0 rfl) ?_
      refine lv_aload_n hx hb dX12_wellFormed_124 rfl (lv_at hl 0 rfl) ?_
      refine lv_iload_n hx hb dX12_wellFormed_125 rfl (lv_at hl 2 rfl) ?_
      refine cVIw (q0 := 0) kmX12_251 hC hw (m_X12_cdr l D cI cC cZ cJ ad x3 g k h) rfl rfl ⟨by decide, by decide⟩ rfl rfl rfl hl.1 (Nat.le_of_ble_eq_true rfl) dX12_wellFormed_126 ⟨Nat.zero_le _, Nat.zero_le _⟩ rfl ?_
      intro r_33 u H locs h hw
      obtain ⟨g_31, k_32⟩ := u
      dsimp only at h hw
      refine cVIw (q0 := 0) kmX12_260 hC hw (m_X12_car l D cI cC cZ cJ ad r_33 g_31 k_32 h) rfl rfl ⟨by decide, by decide⟩ rfl rfl rfl hl.1 (Nat.le_of_ble_eq_true rfl) dX12_wellFormed_129 ⟨Nat.zero_le _, Nat.zero_le _⟩ rfl ?_
      intro r_36 u H locs h hw
      obtain ⟨g_34, k_35⟩ := u
      dsimp only at h hw
      refine cVIw (q0 := 0) kmX12_266 hC hw (m_X12_parameters l D cI cC cZ cJ ad n r_36 g_34 k_35 h) rfl rfl ⟨by decide, by decide⟩ rfl rfl rfl hl.1 (Nat.le_of_ble_eq_true rfl) dX12_wellFormed_132 ⟨Nat.zero_le _, Nat.zero_le _⟩ rfl ?_
      intro r_39 u H locs h hw
      obtain ⟨g_37, k_38⟩ := u
      dsimp only at h hw
      refine lv_if_ne (tgt := 140) hx hb dX12_wellFormed_135 (by decide) (fun c_40 => ?_) (fun c_40 => ?_)
      · have h := h.1 c_40
        exact w_140 _ hK9 n x2 x3 x4 g_37 k_38 _ _ _ h hw (lv_sub hl [0, 1, 2, 3] rfl)
      · have h := h.2 c_40
        refine lv_iconst (v := (0 : Int32)) hx hb dX12_wellFormed_138 (by decide) ?_
        exact rtI (wf := (fun u : St × StL => (wM ad cI cC cZ cJ u.1 u.2))) (g_37, k_38) hC hr hlk hw (by decide) h dX12_wellFormed_139
  have w_94 : ∀ (K9 : Int32 → St → StL → Prop) (hK9 : ∀ (x2 : Int32) (g : St) (k : StL) (H : Heap) (locs : List Loc) (ls : Array Slot), K9 x2 g k → Wd D (ty4 cI cC cZ cJ) A s (wM ad cI cC cZ cJ g k) H locs → lv_has ls 8 [(0, .ref (ad 0)), (2, .int x2)] → W p l e RM_X12_wellFormed s m args below meth c H locs 0 0 (QI below D (ty4 cI cC cZ cJ) A args s (fun u : St × StL => (wM ad cI cC cZ cJ u.1 u.2)) (fun (r : Int32) (u : St × StL) => post r u.1 u.2)) (F0 m 9 ls [])) (n : Nat) (x2 : Int32) (x3 : Int32) (x4 : Int32) (g : St) (k : StL) (H : Heap) (locs : List Loc) (ls : Array Slot), V_X12_wellFormed_94 K9 post n x2 x3 x4 g k → Wd D (ty4 cI cC cZ cJ) A s (wM ad cI cC cZ cJ g k) H locs → lv_has ls 8 [(0, .ref (ad 0)), (2, .int x2), (3, .int x3), (4, .int x4)] → W p l e RM_X12_wellFormed s m args below meth c H locs 0 0 (QI below D (ty4 cI cC cZ cJ) A args s (fun u : St × StL => (wM ad cI cC cZ cJ u.1 u.2)) (fun (r : Int32) (u : St × StL) => post r u.1 u.2)) (F0 m 94 ls []) := by
    intro K9 hK9 n x2 x3 x4 g k H locs ls h hw hl
    unfold V_X12_wellFormed_94 at h
    refine lv_iload hx hb dX12_wellFormed_94 (lv_at hl 3 rfl) ?_
    refine lv_iconst (v := (3 : Int32)) hx hb dX12_wellFormed_96 (by decide) ?_
    refine lv_icmp_ne (tgt := 116) hx hb dX12_wellFormed_97 (by decide) (fun c_41 => ?_) (fun c_41 => ?_)
    · have h := h.1 c_41
      exact w_116 _ hK9 n x2 x3 x4 g k _ _ _ h hw (lv_sub hl [0, 1, 2, 3] rfl)
    · have h := h.2 c_41
      refine lv_aload_n hx hb dX12_wellFormed_100 rfl (lv_at hl 0 rfl) ?_
      refine lv_aload_n hx hb dX12_wellFormed_101 rfl (lv_at hl 0 rfl) ?_
      refine lv_iload_n hx hb dX12_wellFormed_102 rfl (lv_at hl 2 rfl) ?_
      refine cVIw (q0 := 0) kmX12_251 hC hw (m_X12_cdr l D cI cC cZ cJ ad x3 g k h) rfl rfl ⟨by decide, by decide⟩ rfl rfl rfl hl.1 (Nat.le_of_ble_eq_true rfl) dX12_wellFormed_103 ⟨Nat.zero_le _, Nat.zero_le _⟩ rfl ?_
      intro r_44 u H locs h hw
      obtain ⟨g_42, k_43⟩ := u
      dsimp only at h hw
      refine cVIw (q0 := 0) kmX12_260 hC hw (m_X12_car l D cI cC cZ cJ ad r_44 g_42 k_43 h) rfl rfl ⟨by decide, by decide⟩ rfl rfl rfl hl.1 (Nat.le_of_ble_eq_true rfl) dX12_wellFormed_106 ⟨Nat.zero_le _, Nat.zero_le _⟩ rfl ?_
      intro r_47 u H locs h hw
      obtain ⟨g_45, k_46⟩ := u
      dsimp only at h hw
      refine cSI ksX12_254 hC (m_X12_sortOf l r_47 h) rfl rfl ⟨by decide, by decide⟩ rfl hl.1 (Nat.le_of_ble_eq_true rfl) dX12_wellFormed_109 ⟨Nat.zero_le _, Nat.zero_le _⟩ rfl ?_
      intro r_48 h
      refine lv_iconst (v := (3 : Int32)) hx hb dX12_wellFormed_112 (by decide) ?_
      refine lv_icmp_ne (tgt := 138) hx hb dX12_wellFormed_113 (by decide) (fun c_49 => ?_) (fun c_49 => ?_)
      · have h := h.1 c_49
        refine lv_iconst (v := (0 : Int32)) hx hb dX12_wellFormed_138 (by decide) ?_
        exact rtI (wf := (fun u : St × StL => (wM ad cI cC cZ cJ u.1 u.2))) (g_45, k_46) hC hr hlk hw (by decide) h dX12_wellFormed_139
      · have h := h.2 c_49
        exact w_116 _ hK9 n x2 x3 x4 g_45 k_46 _ _ _ h hw (lv_sub hl [0, 1, 2, 3] rfl)
  have w_9 : ∀ (n : Nat) (x2 : Int32) (g : St) (k : StL) (H : Heap) (locs : List Loc) (ls : Array Slot), V_X12_wellFormed_9 post n x2 g k → Wd D (ty4 cI cC cZ cJ) A s (wM ad cI cC cZ cJ g k) H locs → lv_has ls 8 [(0, .ref (ad 0)), (2, .int x2)] → W p l e RM_X12_wellFormed s m args below meth c H locs 0 0 (QI below D (ty4 cI cC cZ cJ) A args s (fun u : St × StL => (wM ad cI cC cZ cJ u.1 u.2)) (fun (r : Int32) (u : St × StL) => post r u.1 u.2)) (F0 m 9 ls []) := by
    intro n
    induction n with
    | zero =>
      intro x2 g k H locs ls h
      exact False.elim h
    | succ n ih =>
      intro x2 g k H locs ls h hw hl
      rw [V_X12_wellFormed_9] at h
      refine lv_iload_n hx hb dX12_wellFormed_9 rfl (lv_at hl 1 rfl) ?_
      refine lv_if_le (tgt := 232) hx hb dX12_wellFormed_10 (by decide) (fun c_50 => ?_) (fun c_50 => ?_)
      · have h := h.1 c_50
        refine lv_iconst (v := (1 : Int32)) hx hb dX12_wellFormed_232 (by decide) ?_
        exact rtI (wf := (fun u : St × StL => (wM ad cI cC cZ cJ u.1 u.2))) (g, k) hC hr hlk hw (by decide) h dX12_wellFormed_233
      · have h := h.2 c_50
        obtain ⟨x_51, ex_51⟩ : ∃ y : Int32, y = x2 + (-1 : Int32) := ⟨_, rfl⟩
        have h := h x_51 ex_51
        refine lv_iinc (v := x_51) (lv' := [(2, .int x_51), (0, .ref (ad 0))]) hx hb dX12_wellFormed_13 hl (k := 1) rfl (by rw [ex_51]; rfl) (by decide) rfl (fun ls hl => ?_)
        refine lv_aload_n hx hb dX12_wellFormed_16 rfl (lv_at hl 1 rfl) ?_
        refine gt (v := .ref (ad 24)) kfX12_143 0 hC hw rfl rfl dX12_wellFormed_17 ?_
        refine lv_iload_n hx hb dX12_wellFormed_20 rfl (lv_at hl 0 rfl) ?_
        refine ldI 24 0 hC hw rfl rfl h.1 dX12_wellFormed_21 ?_
        have h := h.2
        refine lv_topi (fun x_52 ex_52 => ?_)
        have h := h x_52 ex_52
        refine lv_istore_n (lv' := [(3, .int x_52), (2, .int x_51), (0, .ref (ad 0))]) hx hb dX12_wellFormed_22 rfl hl (by decide) rfl (fun ls hl => ?_)
        refine lv_iload_n hx hb dX12_wellFormed_23 rfl (lv_at hl 0 rfl) ?_
        refine cSI ksX12_254 hC (m_X12_sortOf l x_52 h) rfl rfl ⟨by decide, by decide⟩ rfl hl.1 (Nat.le_of_ble_eq_true rfl) dX12_wellFormed_24 ⟨Nat.zero_le _, Nat.zero_le _⟩ rfl ?_
        intro r_53 h
        refine lv_iconst (v := (4 : Int32)) hx hb dX12_wellFormed_27 (by decide) ?_
        refine lv_icmp_eq (tgt := 34) hx hb dX12_wellFormed_28 (by decide) (fun c_54 => ?_) (fun c_54 => ?_)
        · have h := h.1 c_54
          refine lv_aload_n hx hb dX12_wellFormed_34 rfl (lv_at hl 2 rfl) ?_
          refine lv_iload_n hx hb dX12_wellFormed_35 rfl (lv_at hl 0 rfl) ?_
          refine cVIw (q0 := 0) kmX12_263 hC hw (m_X12_opOf l D cI cC cZ cJ ad x_52 g k h) rfl rfl ⟨by decide, by decide⟩ rfl rfl rfl hl.1 (Nat.le_of_ble_eq_true rfl) dX12_wellFormed_36 ⟨Nat.zero_le _, Nat.zero_le _⟩ rfl ?_
          intro r_57 u H locs h hw
          obtain ⟨g_55, k_56⟩ := u
          dsimp only at h hw
          refine lv_istore (lv' := [(4, .int r_57), (3, .int x_52), (2, .int x_51), (0, .ref (ad 0))]) hx hb dX12_wellFormed_39 hl (by decide) rfl (fun ls hl => ?_)
          refine lv_aload_n hx hb dX12_wellFormed_41 rfl (lv_at hl 3 rfl) ?_
          refine lv_aload_n hx hb dX12_wellFormed_42 rfl (lv_at hl 3 rfl) ?_
          refine lv_iload_n hx hb dX12_wellFormed_43 rfl (lv_at hl 1 rfl) ?_
          refine cVIw (q0 := 0) kmX12_251 hC hw (m_X12_cdr l D cI cC cZ cJ ad x_52 g_55 k_56 h) rfl rfl ⟨by decide, by decide⟩ rfl rfl rfl hl.1 (Nat.le_of_ble_eq_true rfl) dX12_wellFormed_44 ⟨Nat.zero_le _, Nat.zero_le _⟩ rfl ?_
          intro r_60 u H locs h hw
          obtain ⟨g_58, k_59⟩ := u
          dsimp only at h hw
          refine cVIw (q0 := 0) kmX12_257 hC hw (m_X12_parts l D cI cC cZ cJ ad n r_60 g_58 k_59 h) rfl rfl ⟨by decide, by decide⟩ rfl rfl rfl hl.1 (Nat.le_of_ble_eq_true rfl) dX12_wellFormed_47 ⟨Nat.zero_le _, Nat.zero_le _⟩ rfl ?_
          intro r_63 u H locs h hw
          obtain ⟨g_61, k_62⟩ := u
          dsimp only at h hw
          refine lv_istore (lv' := [(5, .int r_63), (4, .int r_57), (3, .int x_52), (2, .int x_51), (0, .ref (ad 0))]) hx hb dX12_wellFormed_50 hl (by decide) rfl (fun ls hl => ?_)
          refine lv_iload hx hb dX12_wellFormed_52 (lv_at hl 1 rfl) ?_
          refine lv_bipush (v := (31 : Int32)) hx hb dX12_wellFormed_54 (by decide) ?_
          refine lv_icmp_ne (tgt := 68) hx hb dX12_wellFormed_56 (by decide) (fun c_64 => ?_) (fun c_64 => ?_)
          · have h := h.1 c_64
            refine lv_iload hx hb dX12_wellFormed_68 (lv_at hl 0 rfl) ?_
            refine lv_aload_n hx hb dX12_wellFormed_70 rfl (lv_at hl 4 rfl) ?_
            refine gt (v := .ref (ad 6)) kfX12_89 0 hC hw rfl rfl dX12_wellFormed_71 ?_
            refine lv_iload hx hb dX12_wellFormed_74 (lv_at hl 1 rfl) ?_
            refine ldI 6 0 hC hw rfl rfl h.1 dX12_wellFormed_76 ?_
            have h := h.2
            refine lv_icmp_lt (tgt := 92) hx hb dX12_wellFormed_77 (by decide) (fun c_65 => ?_) (fun c_65 => ?_)
            · have h := h.1 c_65
              refine lv_iconst (v := (0 : Int32)) hx hb dX12_wellFormed_92 (by decide) ?_
              exact rtI (wf := (fun u : St × StL => (wM ad cI cC cZ cJ u.1 u.2))) (g_61, k_62) hC hr hlk hw (by decide) h dX12_wellFormed_93
            · have h := h.2 c_65
              refine lv_iload hx hb dX12_wellFormed_80 (lv_at hl 0 rfl) ?_
              refine lv_aload_n hx hb dX12_wellFormed_82 rfl (lv_at hl 4 rfl) ?_
              refine gt (v := .ref (ad 7)) kfX12_92 0 hC hw rfl rfl dX12_wellFormed_83 ?_
              refine lv_iload hx hb dX12_wellFormed_86 (lv_at hl 1 rfl) ?_
              refine ldI 7 0 hC hw rfl rfl h.1 dX12_wellFormed_88 ?_
              have h := h.2
              refine lv_icmp_le (tgt := 94) hx hb dX12_wellFormed_89 (by decide) (fun c_66 => ?_) (fun c_66 => ?_)
              · have h := h.1 c_66
                exact w_94 _ ih n x_51 x_52 r_57 g_61 k_62 _ _ _ h hw (lv_sub hl [4, 3, 2, 1] rfl)
              · have h := h.2 c_66
                refine lv_iconst (v := (0 : Int32)) hx hb dX12_wellFormed_92 (by decide) ?_
                exact rtI (wf := (fun u : St × StL => (wM ad cI cC cZ cJ u.1 u.2))) (g_61, k_62) hC hr hlk hw (by decide) h dX12_wellFormed_93
          · have h := h.2 c_64
            refine lv_iload hx hb dX12_wellFormed_59 (lv_at hl 0 rfl) ?_
            refine lv_iconst (v := (4 : Int32)) hx hb dX12_wellFormed_61 (by decide) ?_
            refine lv_icmp_le (tgt := 94) hx hb dX12_wellFormed_62 (by decide) (fun c_67 => ?_) (fun c_67 => ?_)
            · have h := h.1 c_67
              exact w_94 _ ih n x_51 x_52 r_57 g_61 k_62 _ _ _ h hw (lv_sub hl [4, 3, 2, 1] rfl)
            · have h := h.2 c_67
              refine lv_goto (tgt := 92) hx hb dX12_wellFormed_65 (by decide) ?_
              refine lv_iconst (v := (0 : Int32)) hx hb dX12_wellFormed_92 (by decide) ?_
              exact rtI (wf := (fun u : St × StL => (wM ad cI cC cZ cJ u.1 u.2))) (g_61, k_62) hC hr hlk hw (by decide) h dX12_wellFormed_93
        · have h := h.2 c_54
          refine lv_goto (tgt := 9) hx hb dX12_wellFormed_31 (by decide) ?_
          exact ih x_51 g k _ _ _ h hw (lv_sub hl [2, 1] rfl)
  unfold V_X12_wellFormed at h
  refine lv_iconst (v := (1 : Int32)) hx hb dX12_wellFormed_0 (by decide) ?_
  refine lv_topi (fun x_68 ex_68 => ?_)
  have h := h x_68 ex_68
  refine lv_istore_n (lv' := [(2, .int x_68), (0, .ref (ad 0)), (1, .int x1)]) hx hb dX12_wellFormed_1 rfl hl (by decide) rfl (fun ls hl => ?_)
  refine lv_aload_n hx hb dX12_wellFormed_2 rfl (lv_at hl 1 rfl) ?_
  refine gt (v := .ref (ad 24)) kfX12_143 0 hC hw rfl rfl dX12_wellFormed_3 ?_
  refine lv_iconst (v := (0 : Int32)) hx hb dX12_wellFormed_6 (by decide) ?_
  refine lv_iload_n hx hb dX12_wellFormed_7 rfl (lv_at hl 2 rfl) ?_
  refine swM_24 h.1 hC hw dX12_wellFormed_8 (fun H locs g_69 eg_69 hw => ?_)
  have h := h.2 g_69 eg_69
  exact w_9 n x_68 g_69 k _ _ _ h hw (lv_sub hl [1, 0] rfl)
