abbrev RM_J3_checkIndex_8e157 : Room := { frames := 0, cells := 0, slots := 0, locals := 0 }
set_option maxHeartbeats 4000000 in
set_option maxRecDepth 100000 in
theorem m_J3_checkIndex_8e157 (l : Launch) (i n : Int32) (fv : Value) (hfv : fv = .null ∨ ∃ t, fv = .ref t) (h1 : ¬ i < 0 ∧ i < n) : MetS l yJ3_checkIndex_8e157 cJ3_checkIndex_8e157 3 .int RM_J3_checkIndex_8e157 [.int i, .int n, fv] (fun _ => True) := by
  have key : ∀ fv : Value, (lg_sl [Value.int i, Value.int n, fv]).length ≤ 3 → lv_args 0 [Value.int i, Value.int n, fv] = [(0, .int i), (1, .int n), (2, fv)] → MetS l yJ3_checkIndex_8e157 cJ3_checkIndex_8e157 3 .int RM_J3_checkIndex_8e157 [.int i, .int n, fv] (fun _ => True) := by
    intro fv hlen hargs
    refine mkS (by decide) hlen ?_
    intro p e s m args below meth c ls hC hr hlk hl
    have hx := hC.1
    have hb := hC.2.1
    rw [hargs] at hl
    refine lv_iload_n hx hb dJ3_checkIndex_8e157_0 rfl (lv_at hl 0 rfl) ?_
    refine lv_if_lt (tgt := 9) hx hb dJ3_checkIndex_8e157_1 (by decide) (fun c1 => absurd c1 h1.1) (fun c1 => ?_)
    refine lv_iload_n hx hb dJ3_checkIndex_8e157_4 rfl (lv_at hl 0 rfl) ?_
    refine lv_iload_n hx hb dJ3_checkIndex_8e157_5 rfl (lv_at hl 1 rfl) ?_
    refine lv_icmp_lt (tgt := 16) hx hb dJ3_checkIndex_8e157_6 (by decide) (fun c2 => ?_) (fun c2 => absurd h1.2 c2)
    refine lv_iload_n hx hb dJ3_checkIndex_8e157_16 rfl (lv_at hl 0 rfl) ?_
    exact rtS hC hr hlk rfl trivial dJ3_checkIndex_8e157_17
  rcases hfv with rfl | ⟨t, rfl⟩
  · exact key _ (Nat.le_of_ble_eq_true rfl) rfl
  · exact key _ (Nat.le_of_ble_eq_true rfl) rfl
abbrev RM_J0_checkIndex_df160 : Room := { frames := 1, cells := 0, slots := 0, locals := 22 }
set_option maxHeartbeats 4000000 in
set_option maxRecDepth 100000 in
theorem m_J0_checkIndex_df160 (l : Launch) (D : va_G) (cI cC cZ cJ : ClassId) (ea : Nat → Nat → Nat) (i n : Int32) {post : Prop} (h1 : ¬ i < 0 ∧ i < n) (h : post) : MetVE ea l yJ0_checkIndex_df160 cJ0_checkIndex_df160 2 RM_J0_checkIndex_df160 D (ty4 cI cC cZ cJ) ([] : va_W) [.int i, .int n] (fun _ : Unit => ([] : va_W)) (fun _ : Unit => post) := by
  refine mkVE (by decide) (Nat.le_of_ble_eq_true rfl) ?_
  intro p e s m args below meth c A ls hC hr hlk hw hE hl
  have hx := hC.1
  have hb := hC.2.1
  have hl : lv_has ls 2 [(0, .int i), (1, .int n)] := hl
  refine lv_iload_n hx hb dJ0_checkIndex_df160_0 rfl (lv_at hl 0 rfl) ?_
  refine lv_iload_n hx hb dJ0_checkIndex_df160_1 rfl (lv_at hl 1 rfl) ?_
  have go : ∀ fv : Value, (fv = .null ∨ ∃ t, fv = .ref t) → W p l e RM_J0_checkIndex_df160 s m args below meth c s.heap [] 0 0 (QV below D (ty4 cI cC cZ cJ) A args s (fun _ : Unit => ([] : va_W)) (fun _ : Unit => post)) (F0 m 5 ls [fv, .int n, .int i]) := by
    intro fv hfv
    refine cSI ksJ0_1059 hC (m_J3_checkIndex_8e157 l i n fv hfv h1) rfl rfl ⟨by decide, by decide⟩ rfl hl.1 (Nat.le_of_ble_eq_true rfl) dJ0_checkIndex_df160_5 ⟨Nat.zero_le _, Nat.zero_le _⟩ rfl ?_
    intro r _
    refine lv_pop hx hb dJ0_checkIndex_df160_8 rfl ?_
    exact rtV (wf := (fun _ : Unit => ([] : va_W))) () hC hr hlk hw h dJ0_checkIndex_df160_9
  rcases hE.2.2.2.2.2.2.2.2.2.2.2 with hz | ⟨t, hz⟩
  · refine gts kzJ0_1053 hC hw hz dJ0_checkIndex_df160_2 ?_
    exact go _ (Or.inl rfl)
  · refine gts kzJ0_1053 hC hw hz dJ0_checkIndex_df160_2 ?_
    exact go _ (Or.inr ⟨t, rfl⟩)

def V_Jx29ce0_ordinal_8abf5 (x0 : Nat) (post : Int32 → Prop) : Prop := (x0 < 32 ∧ post (nI x0))
abbrev RM_Jx29ce0_ordinal_8abf5 : Room := { frames := 0, cells := 0, slots := 0, locals := 0 }
set_option maxHeartbeats 4000000 in
set_option maxRecDepth 100000 in
theorem m_Jx29ce0_ordinal_8abf5 (l : Launch) (D : va_G) (cI cC cZ cJ : ClassId) (ea : Nat → Nat → Nat) (x0 : Nat) {post : Int32 → Prop} (h : V_Jx29ce0_ordinal_8abf5 x0 post) : MetIE ea l yJx29ce0_ordinal_8abf5 cJx29ce0_ordinal_8abf5 1 .int RM_Jx29ce0_ordinal_8abf5 D (ty4 cI cC cZ cJ) ([] : va_W) [.ref (ea 0 x0)] (fun _ : Unit => ([] : va_W)) (fun (r : Int32) (_ : Unit) => post r) := by
  refine mkIE (by decide) (Nat.le_of_ble_eq_true rfl) ?_
  intro p e s m args below meth c A ls hC hr hlk hw hE hl
  have hx := hC.1
  have hb := hC.2.1
  have hl : lv_has ls 1 [(0, .ref (ea 0 x0))] := hl
  unfold V_Jx29ce0_ordinal_8abf5 at h
  refine lv_aload_n hx hb dJx29ce0_ordinal_8abf5_0 rfl (lv_at hl 0 rfl) ?_
  refine gtO koJx29ce0_7 hC hw (hE.2.2.2.2.2.2.1 _ h.1).2.1 dJx29ce0_ordinal_8abf5_1 ?_
  have h := h.2
  exact rtI (wf := (fun _ : Unit => ([] : va_W))) () hC hr hlk hw rfl h dJx29ce0_ordinal_8abf5_4
def V_J0_coder_7d493 (x0 : Nat) (post : Int32 → Prop) : Prop := (((1 : Int32) = 0 → post (1 : Int32)) ∧ (¬ (1 : Int32) = 0 → (x0 < 37 ∧ post (0 : Int32))))
abbrev RM_J0_coder_7d493 : Room := { frames := 0, cells := 0, slots := 0, locals := 0 }
set_option maxHeartbeats 4000000 in
set_option maxRecDepth 100000 in
theorem m_J0_coder_7d493 (l : Launch) (D : va_G) (cI cC cZ cJ : ClassId) (ea : Nat → Nat → Nat) (x0 : Nat) {post : Int32 → Prop} (h : V_J0_coder_7d493 x0 post) : MetIE ea l yJ0_coder_7d493 cJ0_coder_7d493 1 .byte RM_J0_coder_7d493 D (ty4 cI cC cZ cJ) ([] : va_W) [.ref (ea 2 x0)] (fun _ : Unit => ([] : va_W)) (fun (r : Int32) (_ : Unit) => post r) := by
  refine mkIE (by decide) (Nat.le_of_ble_eq_true rfl) ?_
  intro p e s m args below meth c A ls hC hr hlk hw hE hl
  have hx := hC.1
  have hb := hC.2.1
  have hl : lv_has ls 1 [(0, .ref (ea 2 x0))] := hl
  unfold V_J0_coder_7d493 at h
  refine gts kzJ0_38 hC hw hE.2.2.2.2.2.1 dJ0_coder_7d493_0 ?_
  refine lv_if_eq (tgt := 13) hx hb dJ0_coder_7d493_3 (by decide) (fun c_1 => ?_) (fun c_1 => ?_)
  · have h := h.1 c_1
    refine lv_iconst (v := (1 : Int32)) hx hb dJ0_coder_7d493_13 (by decide) ?_
    exact rtI (wf := (fun _ : Unit => ([] : va_W))) () hC hr hlk hw (by decide) h dJ0_coder_7d493_14
  · have h := h.2 c_1
    refine lv_aload_n hx hb dJ0_coder_7d493_6 rfl (lv_at hl 0 rfl) ?_
    refine gtO koJ0_15 hC hw (hE.2.2.2.2.2.2.2.1 _ h.1).2.1 dJ0_coder_7d493_7 ?_
    have h := h.2
    refine lv_goto (tgt := 14) hx hb dJ0_coder_7d493_10 (by decide) ?_
    exact rtI (wf := (fun _ : Unit => ([] : va_W))) () hC hr hlk hw (by decide) h dJ0_coder_7d493_14
def V_J0_length_8abf5 (x0 : Nat) (post : Int32 → Prop) : Prop := (x0 < 37 ∧ (x0 < 37 ∧ (x0 < 37 ∧ V_J0_coder_7d493 x0 (fun r_1 => post ((Int32.ofNat (STL.getD x0 []).length) >>> (r_1 &&& 31))))))
abbrev RM_J0_length_8abf5 : Room := { frames := 1, cells := 0, slots := 0, locals := 20 }
set_option maxHeartbeats 4000000 in
set_option maxRecDepth 100000 in
theorem m_J0_length_8abf5 (l : Launch) (D : va_G) (cI cC cZ cJ : ClassId) (ea : Nat → Nat → Nat) (x0 : Nat) {post : Int32 → Prop} (h : V_J0_length_8abf5 x0 post) : MetIE ea l yJ0_length_8abf5 cJ0_length_8abf5 1 .int RM_J0_length_8abf5 D (ty4 cI cC cZ cJ) ([] : va_W) [.ref (ea 2 x0)] (fun _ : Unit => ([] : va_W)) (fun (r : Int32) (_ : Unit) => post r) := by
  refine mkIE (by decide) (Nat.le_of_ble_eq_true rfl) ?_
  intro p e s m args below meth c A ls hC hr hlk hw hE hl
  have hx := hC.1
  have hb := hC.2.1
  have hl : lv_has ls 1 [(0, .ref (ea 2 x0))] := hl
  unfold V_J0_length_8abf5 at h
  refine lv_aload_n hx hb dJ0_length_8abf5_0 rfl (lv_at hl 0 rfl) ?_
  refine gtO koJ0_9 hC hw (hE.2.2.2.2.2.2.2.1 _ h.1).2.2.1 dJ0_length_8abf5_1 ?_
  have h := h.2
  refine va_tlen (v := (Int32.ofNat (STL.getD x0 []).length)) hx hb (hE.2.2.2.2.2.2.2.1 _ h.1).2.2.2 hw.2.2.2.1 rfl dJ0_length_8abf5_4 ?_
  have h := h.2
  refine lv_aload_n hx hb dJ0_length_8abf5_5 rfl (lv_at hl 0 rfl) ?_
  refine cVI0 kmJ0_335 hC hw hE (m_J0_coder_7d493 l D cI cC cZ cJ ea x0 h.2) rfl rfl ⟨by decide, by decide⟩ (va_Orecv (hE.2.2.2.2.2.2.2.1 _ h.1).1 hw.2.2.2.1) rfl hl.1 (Nat.le_of_ble_eq_true rfl) dJ0_length_8abf5_6 ⟨Nat.zero_le _, Nat.zero_le _⟩ rfl ?_
  intro r_1 H locs h hw
  refine lv_ishr hx hb dJ0_length_8abf5_9 ?_
  exact rtI (wf := (fun _ : Unit => ([] : va_W))) () hC hr hlk hw rfl h dJ0_length_8abf5_10
def V_J0_isLatin1_aae02 (x0 : Nat) (post : Int32 → Prop) : Prop := (((1 : Int32) = 0 → post (0 : Int32)) ∧ (¬ (1 : Int32) = 0 → (x0 < 37 ∧ ((¬ (0 : Int32) = 0 → post (0 : Int32)) ∧ ((0 : Int32) = 0 → post (1 : Int32))))))
abbrev RM_J0_isLatin1_aae02 : Room := { frames := 0, cells := 0, slots := 0, locals := 0 }
set_option maxHeartbeats 4000000 in
set_option maxRecDepth 100000 in
theorem m_J0_isLatin1_aae02 (l : Launch) (D : va_G) (cI cC cZ cJ : ClassId) (ea : Nat → Nat → Nat) (x0 : Nat) {post : Int32 → Prop} (h : V_J0_isLatin1_aae02 x0 post) : MetIE ea l yJ0_isLatin1_aae02 cJ0_isLatin1_aae02 1 .boolean RM_J0_isLatin1_aae02 D (ty4 cI cC cZ cJ) ([] : va_W) [.ref (ea 2 x0)] (fun _ : Unit => ([] : va_W)) (fun (r : Int32) (_ : Unit) => post r) := by
  refine mkIE (by decide) (Nat.le_of_ble_eq_true rfl) ?_
  intro p e s m args below meth c A ls hC hr hlk hw hE hl
  have hx := hC.1
  have hb := hC.2.1
  have hl : lv_has ls 1 [(0, .ref (ea 2 x0))] := hl
  unfold V_J0_isLatin1_aae02 at h
  refine gts kzJ0_38 hC hw hE.2.2.2.2.2.1 dJ0_isLatin1_aae02_0 ?_
  refine lv_if_eq (tgt := 17) hx hb dJ0_isLatin1_aae02_3 (by decide) (fun c_1 => ?_) (fun c_1 => ?_)
  · have h := h.1 c_1
    refine lv_iconst (v := (0 : Int32)) hx hb dJ0_isLatin1_aae02_17 (by decide) ?_
    exact rtI (wf := (fun _ : Unit => ([] : va_W))) () hC hr hlk hw (by decide) h dJ0_isLatin1_aae02_18
  · have h := h.2 c_1
    refine lv_aload_n hx hb dJ0_isLatin1_aae02_6 rfl (lv_at hl 0 rfl) ?_
    refine gtO koJ0_15 hC hw (hE.2.2.2.2.2.2.2.1 _ h.1).2.1 dJ0_isLatin1_aae02_7 ?_
    have h := h.2
    refine lv_if_ne (tgt := 17) hx hb dJ0_isLatin1_aae02_10 (by decide) (fun c_2 => ?_) (fun c_2 => ?_)
    · have h := h.1 c_2
      refine lv_iconst (v := (0 : Int32)) hx hb dJ0_isLatin1_aae02_17 (by decide) ?_
      exact rtI (wf := (fun _ : Unit => ([] : va_W))) () hC hr hlk hw (by decide) h dJ0_isLatin1_aae02_18
    · have h := h.2 c_2
      refine lv_iconst (v := (1 : Int32)) hx hb dJ0_isLatin1_aae02_13 (by decide) ?_
      refine lv_goto (tgt := 18) hx hb dJ0_isLatin1_aae02_14 (by decide) ?_
      exact rtI (wf := (fun _ : Unit => ([] : va_W))) () hC hr hlk hw (by decide) h dJ0_isLatin1_aae02_18
def V_J1_charAt_3b067 (x0 : Nat) (x1 : Int32) (post : Int32 → Prop) : Prop := (x0 < 37 ∧ ((¬ x1 < 0 ∧ x1 < (Int32.ofNat (STL.getD x0 []).length)) ∧ (x0 < 37 ∧ vp_in x1 (STL.getD x0 []).length ∧ (narrow .char (.int ((((((STL.getD x0 []).getD x1.toNatClampNeg 0) &&& (255 : Int32))).toUInt32 % 65536).toInt32)) = .int ((((((STL.getD x0 []).getD x1.toNatClampNeg 0) &&& (255 : Int32))).toUInt32 % 65536).toInt32) ∧ post ((((((STL.getD x0 []).getD x1.toNatClampNeg 0) &&& (255 : Int32))).toUInt32 % 65536).toInt32)))))
abbrev RM_J1_charAt_3b067 : Room := { frames := 2, cells := 0, slots := 0, locals := 43 }
set_option maxHeartbeats 4000000 in
set_option maxRecDepth 100000 in
theorem m_J1_charAt_3b067 (l : Launch) (D : va_G) (cI cC cZ cJ : ClassId) (ea : Nat → Nat → Nat) (x0 : Nat) (x1 : Int32) {post : Int32 → Prop} (h : V_J1_charAt_3b067 x0 x1 post) : MetIE ea l yJ1_charAt_3b067 cJ1_charAt_3b067 2 .char RM_J1_charAt_3b067 D (ty4 cI cC cZ cJ) ([] : va_W) [.ref (ea 3 x0), .int x1] (fun _ : Unit => ([] : va_W)) (fun (r : Int32) (_ : Unit) => post r) := by
  refine mkIE (by decide) (Nat.le_of_ble_eq_true rfl) ?_
  intro p e s m args below meth c A ls hC hr hlk hw hE hl
  have hx := hC.1
  have hb := hC.2.1
  have hl : lv_has ls 2 [(0, .ref (ea 3 x0)), (1, .int x1)] := hl
  unfold V_J1_charAt_3b067 at h
  refine lv_iload_n hx hb dJ1_charAt_3b067_0 rfl (lv_at hl 1 rfl) ?_
  refine lv_aload_n hx hb dJ1_charAt_3b067_1 rfl (lv_at hl 0 rfl) ?_
  refine va_tlen (v := (Int32.ofNat (STL.getD x0 []).length)) hx hb (hE.2.2.2.2.2.2.2.1 _ h.1).2.2.2 hw.2.2.2.1 rfl dJ1_charAt_3b067_2 ?_
  have h := h.2
  refine cSV0 ksJ1_9 hC hw hE (m_J0_checkIndex_df160 l D cI cC cZ cJ ea x1 (Int32.ofNat (STL.getD x0 []).length) (post := True) h.1 trivial) rfl rfl ⟨by decide, by decide⟩ rfl hl.1 (Nat.le_of_ble_eq_true rfl) dJ1_charAt_3b067_3 ⟨Nat.zero_le _, Nat.zero_le _⟩ rfl ?_
  have h := h.2
  intro H locs _ hw
  refine lv_aload_n hx hb dJ1_charAt_3b067_6 rfl (lv_at hl 0 rfl) ?_
  refine lv_iload_n hx hb dJ1_charAt_3b067_7 rfl (lv_at hl 1 rfl) ?_
  refine va_tb hx hb (hE.2.2.2.2.2.2.2.1 _ h.1).2.2.2 hw.2.2.2.1 h.2.1 rfl dJ1_charAt_3b067_8 ?_
  have h := h.2.2
  refine lv_sipush (v := (255 : Int32)) hx hb dJ1_charAt_3b067_9 (by decide) ?_
  refine lv_iand hx hb dJ1_charAt_3b067_12 ?_
  refine lv_i2c hx hb dJ1_charAt_3b067_13 rfl ?_
  exact rtI (wf := (fun _ : Unit => ([] : va_W))) () hC hr hlk hw h.1 h.2 dJ1_charAt_3b067_14
def V_J0_charAt_5068e (x0 : Nat) (x1 : Int32) (post : Int32 → Prop) : Prop := (x0 < 37 ∧ V_J0_isLatin1_aae02 x0 (fun r_1 => ((r_1 = 0 → (x0 < 37 ∧ False)) ∧ (¬ r_1 = 0 → (x0 < 37 ∧ V_J1_charAt_3b067 x0 x1 (fun r_3 => (narrow .char (.int r_3) = .int r_3 ∧ post r_3)))))))
abbrev RM_J0_charAt_5068e : Room := { frames := 3, cells := 0, slots := 0, locals := 64 }
set_option maxHeartbeats 4000000 in
set_option maxRecDepth 100000 in
theorem m_J0_charAt_5068e (l : Launch) (D : va_G) (cI cC cZ cJ : ClassId) (ea : Nat → Nat → Nat) (x0 : Nat) (x1 : Int32) {post : Int32 → Prop} (h : V_J0_charAt_5068e x0 x1 post) : MetIE ea l yJ0_charAt_5068e cJ0_charAt_5068e 2 .char RM_J0_charAt_5068e D (ty4 cI cC cZ cJ) ([] : va_W) [.ref (ea 2 x0), .int x1] (fun _ : Unit => ([] : va_W)) (fun (r : Int32) (_ : Unit) => post r) := by
  refine mkIE (by decide) (Nat.le_of_ble_eq_true rfl) ?_
  intro p e s m args below meth c A ls hC hr hlk hw hE hl
  have hx := hC.1
  have hb := hC.2.1
  have hl : lv_has ls 2 [(0, .ref (ea 2 x0)), (1, .int x1)] := hl
  unfold V_J0_charAt_5068e at h
  refine lv_aload_n hx hb dJ0_charAt_5068e_0 rfl (lv_at hl 0 rfl) ?_
  refine cVI0 kmJ0_492 hC hw hE (m_J0_isLatin1_aae02 l D cI cC cZ cJ ea x0 h.2) rfl rfl ⟨by decide, by decide⟩ (va_Orecv (hE.2.2.2.2.2.2.2.1 _ h.1).1 hw.2.2.2.1) rfl hl.1 (Nat.le_of_ble_eq_true rfl) dJ0_charAt_5068e_1 ⟨Nat.zero_le _, Nat.zero_le _⟩ rfl ?_
  intro r_1 H locs h hw
  refine lv_if_eq (tgt := 16) hx hb dJ0_charAt_5068e_4 (by decide) (fun c_2 => ?_) (fun c_2 => ?_)
  · have h := h.1 c_2
    refine lv_aload_n hx hb dJ0_charAt_5068e_16 rfl (lv_at hl 0 rfl) ?_
    refine gtO koJ0_9 hC hw (hE.2.2.2.2.2.2.2.1 _ h.1).2.2.1 dJ0_charAt_5068e_17 ?_
    have h := h.2
    refine lv_iload_n hx hb dJ0_charAt_5068e_20 rfl (lv_at hl 1 rfl) ?_
    exact False.elim h
  · have h := h.2 c_2
    refine lv_aload_n hx hb dJ0_charAt_5068e_7 rfl (lv_at hl 0 rfl) ?_
    refine gtO koJ0_9 hC hw (hE.2.2.2.2.2.2.2.1 _ h.1).2.2.1 dJ0_charAt_5068e_8 ?_
    have h := h.2
    refine lv_iload_n hx hb dJ0_charAt_5068e_11 rfl (lv_at hl 1 rfl) ?_
    refine cSI0 ksJ0_495 hC hw hE (m_J1_charAt_3b067 l D cI cC cZ cJ ea x0 x1 h) rfl rfl ⟨by decide, by decide⟩ rfl hl.1 (Nat.le_of_ble_eq_true rfl) dJ0_charAt_5068e_12 ⟨Nat.zero_le _, Nat.zero_le _⟩ rfl ?_
    intro r_3 H locs h hw
    exact rtI (wf := (fun _ : Unit => ([] : va_W))) () hC hr hlk hw h.1 h.2 dJ0_charAt_5068e_15
def V_X11_isInRange (x0 : Int32) (post : Int32 → Prop) : Prop := ((x0 < (-32768 : Int32) → post (0 : Int32)) ∧ (¬ x0 < (-32768 : Int32) → (((32767 : Int32) < x0 → post (0 : Int32)) ∧ (¬ (32767 : Int32) < x0 → post (1 : Int32)))))
abbrev RM_X11_isInRange : Room := { frames := 0, cells := 0, slots := 0, locals := 0 }
set_option maxHeartbeats 4000000 in
set_option maxRecDepth 100000 in
theorem m_X11_isInRange (l : Launch) (x0 : Int32) {post : Int32 → Prop} (h : V_X11_isInRange x0 post) : MetS l yX11_isInRange cX11_isInRange 1 .boolean RM_X11_isInRange [.int x0] post := by
  refine mkS (by decide) (Nat.le_of_ble_eq_true rfl) ?_
  intro p e s m args below meth c ls hC hr hlk hl
  have hx := hC.1
  have hb := hC.2.1
  have hl : lv_has ls 1 [(0, .int x0)] := hl
  unfold V_X11_isInRange at h
  refine lv_iload_n hx hb dX11_isInRange_0 rfl (lv_at hl 0 rfl) ?_
  refine lv_sipush (v := (-32768 : Int32)) hx hb dX11_isInRange_1 (by decide) ?_
  refine lv_icmp_lt (tgt := 18) hx hb dX11_isInRange_4 (by decide) (fun c_1 => ?_) (fun c_1 => ?_)
  · have h := h.1 c_1
    refine lv_iconst (v := (0 : Int32)) hx hb dX11_isInRange_18 (by decide) ?_
    exact rtS hC hr hlk (by decide) h dX11_isInRange_19
  · have h := h.2 c_1
    refine lv_iload_n hx hb dX11_isInRange_7 rfl (lv_at hl 0 rfl) ?_
    refine lv_sipush (v := (32767 : Int32)) hx hb dX11_isInRange_8 (by decide) ?_
    refine lv_icmp_gt (tgt := 18) hx hb dX11_isInRange_11 (by decide) (fun c_2 => ?_) (fun c_2 => ?_)
    · have h := h.1 c_2
      refine lv_iconst (v := (0 : Int32)) hx hb dX11_isInRange_18 (by decide) ?_
      exact rtS hC hr hlk (by decide) h dX11_isInRange_19
    · have h := h.2 c_2
      refine lv_iconst (v := (1 : Int32)) hx hb dX11_isInRange_14 (by decide) ?_
      refine lv_goto (tgt := 19) hx hb dX11_isInRange_15 (by decide) ?_
      exact rtS hC hr hlk (by decide) h dX11_isInRange_19
def V_X6_isDigit (x0 : Int32) (post : Int32 → Prop) : Prop := ((x0 < (48 : Int32) → post (0 : Int32)) ∧ (¬ x0 < (48 : Int32) → (((57 : Int32) < x0 → post (0 : Int32)) ∧ (¬ (57 : Int32) < x0 → post (1 : Int32)))))
abbrev RM_X6_isDigit : Room := { frames := 0, cells := 0, slots := 0, locals := 0 }
set_option maxHeartbeats 4000000 in
set_option maxRecDepth 100000 in
theorem m_X6_isDigit (l : Launch) (x0 : Int32) {post : Int32 → Prop} (h : V_X6_isDigit x0 post) : MetS l yX6_isDigit cX6_isDigit 1 .boolean RM_X6_isDigit [.int x0] post := by
  refine mkS (by decide) (Nat.le_of_ble_eq_true rfl) ?_
  intro p e s m args below meth c ls hC hr hlk hl
  have hx := hC.1
  have hb := hC.2.1
  have hl : lv_has ls 1 [(0, .int x0)] := hl
  unfold V_X6_isDigit at h
  refine lv_iload_n hx hb dX6_isDigit_0 rfl (lv_at hl 0 rfl) ?_
  refine lv_bipush (v := (48 : Int32)) hx hb dX6_isDigit_1 (by decide) ?_
  refine lv_icmp_lt (tgt := 16) hx hb dX6_isDigit_3 (by decide) (fun c_1 => ?_) (fun c_1 => ?_)
  · have h := h.1 c_1
    refine lv_iconst (v := (0 : Int32)) hx hb dX6_isDigit_16 (by decide) ?_
    exact rtS hC hr hlk (by decide) h dX6_isDigit_17
  · have h := h.2 c_1
    refine lv_iload_n hx hb dX6_isDigit_6 rfl (lv_at hl 0 rfl) ?_
    refine lv_bipush (v := (57 : Int32)) hx hb dX6_isDigit_7 (by decide) ?_
    refine lv_icmp_gt (tgt := 16) hx hb dX6_isDigit_9 (by decide) (fun c_2 => ?_) (fun c_2 => ?_)
    · have h := h.1 c_2
      refine lv_iconst (v := (0 : Int32)) hx hb dX6_isDigit_16 (by decide) ?_
      exact rtS hC hr hlk (by decide) h dX6_isDigit_17
    · have h := h.2 c_2
      refine lv_iconst (v := (1 : Int32)) hx hb dX6_isDigit_12 (by decide) ?_
      refine lv_goto (tgt := 17) hx hb dX6_isDigit_13 (by decide) ?_
      exact rtS hC hr hlk (by decide) h dX6_isDigit_17
def V_X6_isOfAtom_12 (post : Int32 → Prop) (x0 : Int32) : Prop := V_X6_isDigit x0 (fun r_1 => ((¬ r_1 = 0 → post (1 : Int32)) ∧ (r_1 = 0 → ((x0 = (43 : Int32) → post (1 : Int32)) ∧ (¬ x0 = (43 : Int32) → ((x0 = (45 : Int32) → post (1 : Int32)) ∧ (¬ x0 = (45 : Int32) → ((x0 = (42 : Int32) → post (1 : Int32)) ∧ (¬ x0 = (42 : Int32) → ((x0 = (47 : Int32) → post (1 : Int32)) ∧ (¬ x0 = (47 : Int32) → ((¬ x0 = (60 : Int32) → post (0 : Int32)) ∧ (x0 = (60 : Int32) → post (1 : Int32))))))))))))))
def V_X6_isOfAtom (x0 : Int32) (post : Int32 → Prop) : Prop := ((x0 < (97 : Int32) → V_X6_isOfAtom_12 post x0) ∧ (¬ x0 < (97 : Int32) → ((x0 ≤ (122 : Int32) → post (1 : Int32)) ∧ (¬ x0 ≤ (122 : Int32) → V_X6_isOfAtom_12 post x0))))
abbrev RM_X6_isOfAtom : Room := { frames := 1, cells := 0, slots := 0, locals := 20 }
set_option maxHeartbeats 4000000 in
set_option maxRecDepth 100000 in
theorem m_X6_isOfAtom (l : Launch) (x0 : Int32) {post : Int32 → Prop} (h : V_X6_isOfAtom x0 post) : MetS l yX6_isOfAtom cX6_isOfAtom 1 .boolean RM_X6_isOfAtom [.int x0] post := by
  refine mkS (by decide) (Nat.le_of_ble_eq_true rfl) ?_
  intro p e s m args below meth c ls hC hr hlk hl
  have hx := hC.1
  have hb := hC.2.1
  have hl : lv_has ls 1 [(0, .int x0)] := hl
  have w_12 : ∀  (x0 : Int32) (ls : Array Slot), V_X6_isOfAtom_12 post x0 → lv_has ls 1 [(0, .int x0)] → W p l e RM_X6_isOfAtom s m args below meth c s.heap [] 0 0 (MQ below (vp_Si post) args s 0 0 (fun _ => False)) (F0 m 12 ls []) := by
    intro x0 ls h hl
    unfold V_X6_isOfAtom_12 at h
    refine lv_iload_n hx hb dX6_isOfAtom_12 rfl (lv_at hl 0 rfl) ?_
    refine cSI ksX6_44 hC (m_X6_isDigit l x0 h) rfl rfl ⟨by decide, by decide⟩ rfl hl.1 (Nat.le_of_ble_eq_true rfl) dX6_isOfAtom_13 ⟨Nat.zero_le _, Nat.zero_le _⟩ rfl ?_
    intro r_1 h
    refine lv_if_ne (tgt := 49) hx hb dX6_isOfAtom_16 (by decide) (fun c_2 => ?_) (fun c_2 => ?_)
    · have h := h.1 c_2
      refine lv_iconst (v := (1 : Int32)) hx hb dX6_isOfAtom_49 (by decide) ?_
      refine lv_goto (tgt := 54) hx hb dX6_isOfAtom_50 (by decide) ?_
      exact rtS hC hr hlk (by decide) h dX6_isOfAtom_54
    · have h := h.2 c_2
      refine lv_iload_n hx hb dX6_isOfAtom_19 rfl (lv_at hl 0 rfl) ?_
      refine lv_bipush (v := (43 : Int32)) hx hb dX6_isOfAtom_20 (by decide) ?_
      refine lv_icmp_eq (tgt := 49) hx hb dX6_isOfAtom_22 (by decide) (fun c_3 => ?_) (fun c_3 => ?_)
      · have h := h.1 c_3
        refine lv_iconst (v := (1 : Int32)) hx hb dX6_isOfAtom_49 (by decide) ?_
        refine lv_goto (tgt := 54) hx hb dX6_isOfAtom_50 (by decide) ?_
        exact rtS hC hr hlk (by decide) h dX6_isOfAtom_54
      · have h := h.2 c_3
        refine lv_iload_n hx hb dX6_isOfAtom_25 rfl (lv_at hl 0 rfl) ?_
        refine lv_bipush (v := (45 : Int32)) hx hb dX6_isOfAtom_26 (by decide) ?_
        refine lv_icmp_eq (tgt := 49) hx hb dX6_isOfAtom_28 (by decide) (fun c_4 => ?_) (fun c_4 => ?_)
        · have h := h.1 c_4
          refine lv_iconst (v := (1 : Int32)) hx hb dX6_isOfAtom_49 (by decide) ?_
          refine lv_goto (tgt := 54) hx hb dX6_isOfAtom_50 (by decide) ?_
          exact rtS hC hr hlk (by decide) h dX6_isOfAtom_54
        · have h := h.2 c_4
          refine lv_iload_n hx hb dX6_isOfAtom_31 rfl (lv_at hl 0 rfl) ?_
          refine lv_bipush (v := (42 : Int32)) hx hb dX6_isOfAtom_32 (by decide) ?_
          refine lv_icmp_eq (tgt := 49) hx hb dX6_isOfAtom_34 (by decide) (fun c_5 => ?_) (fun c_5 => ?_)
          · have h := h.1 c_5
            refine lv_iconst (v := (1 : Int32)) hx hb dX6_isOfAtom_49 (by decide) ?_
            refine lv_goto (tgt := 54) hx hb dX6_isOfAtom_50 (by decide) ?_
            exact rtS hC hr hlk (by decide) h dX6_isOfAtom_54
          · have h := h.2 c_5
            refine lv_iload_n hx hb dX6_isOfAtom_37 rfl (lv_at hl 0 rfl) ?_
            refine lv_bipush (v := (47 : Int32)) hx hb dX6_isOfAtom_38 (by decide) ?_
            refine lv_icmp_eq (tgt := 49) hx hb dX6_isOfAtom_40 (by decide) (fun c_6 => ?_) (fun c_6 => ?_)
            · have h := h.1 c_6
              refine lv_iconst (v := (1 : Int32)) hx hb dX6_isOfAtom_49 (by decide) ?_
              refine lv_goto (tgt := 54) hx hb dX6_isOfAtom_50 (by decide) ?_
              exact rtS hC hr hlk (by decide) h dX6_isOfAtom_54
            · have h := h.2 c_6
              refine lv_iload_n hx hb dX6_isOfAtom_43 rfl (lv_at hl 0 rfl) ?_
              refine lv_bipush (v := (60 : Int32)) hx hb dX6_isOfAtom_44 (by decide) ?_
              refine lv_icmp_ne (tgt := 53) hx hb dX6_isOfAtom_46 (by decide) (fun c_7 => ?_) (fun c_7 => ?_)
              · have h := h.1 c_7
                refine lv_iconst (v := (0 : Int32)) hx hb dX6_isOfAtom_53 (by decide) ?_
                exact rtS hC hr hlk (by decide) h dX6_isOfAtom_54
              · have h := h.2 c_7
                refine lv_iconst (v := (1 : Int32)) hx hb dX6_isOfAtom_49 (by decide) ?_
                refine lv_goto (tgt := 54) hx hb dX6_isOfAtom_50 (by decide) ?_
                exact rtS hC hr hlk (by decide) h dX6_isOfAtom_54
  unfold V_X6_isOfAtom at h
  refine lv_iload_n hx hb dX6_isOfAtom_0 rfl (lv_at hl 0 rfl) ?_
  refine lv_bipush (v := (97 : Int32)) hx hb dX6_isOfAtom_1 (by decide) ?_
  refine lv_icmp_lt (tgt := 12) hx hb dX6_isOfAtom_3 (by decide) (fun c_8 => ?_) (fun c_8 => ?_)
  · have h := h.1 c_8
    exact w_12 x0 _ h (lv_sub hl [0] rfl)
  · have h := h.2 c_8
    refine lv_iload_n hx hb dX6_isOfAtom_6 rfl (lv_at hl 0 rfl) ?_
    refine lv_bipush (v := (122 : Int32)) hx hb dX6_isOfAtom_7 (by decide) ?_
    refine lv_icmp_le (tgt := 49) hx hb dX6_isOfAtom_9 (by decide) (fun c_9 => ?_) (fun c_9 => ?_)
    · have h := h.1 c_9
      refine lv_iconst (v := (1 : Int32)) hx hb dX6_isOfAtom_49 (by decide) ?_
      refine lv_goto (tgt := 54) hx hb dX6_isOfAtom_50 (by decide) ?_
      exact rtS hC hr hlk (by decide) h dX6_isOfAtom_54
    · have h := h.2 c_9
      exact w_12 x0 _ h (lv_sub hl [0] rfl)
def V_X6_isReadable (x0 : Int32) (post : Int32 → Prop) : Prop := ((x0 = (40 : Int32) → post (1 : Int32)) ∧ (¬ x0 = (40 : Int32) → ((x0 = (41 : Int32) → post (1 : Int32)) ∧ (¬ x0 = (41 : Int32) → ((x0 = (39 : Int32) → post (1 : Int32)) ∧ (¬ x0 = (39 : Int32) → ((x0 = (32 : Int32) → post (1 : Int32)) ∧ (¬ x0 = (32 : Int32) → ((x0 = (10 : Int32) → post (1 : Int32)) ∧ (¬ x0 = (10 : Int32) → V_X6_isOfAtom x0 (fun r_6 => ((r_6 = 0 → post (0 : Int32)) ∧ (¬ r_6 = 0 → post (1 : Int32))))))))))))))
abbrev RM_X6_isReadable : Room := { frames := 2, cells := 0, slots := 0, locals := 40 }
set_option maxHeartbeats 4000000 in
set_option maxRecDepth 100000 in
theorem m_X6_isReadable (l : Launch) (x0 : Int32) {post : Int32 → Prop} (h : V_X6_isReadable x0 post) : MetS l yX6_isReadable cX6_isReadable 1 .boolean RM_X6_isReadable [.int x0] post := by
  refine mkS (by decide) (Nat.le_of_ble_eq_true rfl) ?_
  intro p e s m args below meth c ls hC hr hlk hl
  have hx := hC.1
  have hb := hC.2.1
  have hl : lv_has ls 1 [(0, .int x0)] := hl
  unfold V_X6_isReadable at h
  refine lv_iload_n hx hb dX6_isReadable_0 rfl (lv_at hl 0 rfl) ?_
  refine lv_bipush (v := (40 : Int32)) hx hb dX6_isReadable_1 (by decide) ?_
  refine lv_icmp_eq (tgt := 37) hx hb dX6_isReadable_3 (by decide) (fun c_1 => ?_) (fun c_1 => ?_)
  · have h := h.1 c_1
    refine lv_iconst (v := (1 : Int32)) hx hb dX6_isReadable_37 (by decide) ?_
    refine lv_goto (tgt := 42) hx hb dX6_isReadable_38 (by decide) ?_
    exact rtS hC hr hlk (by decide) h dX6_isReadable_42
  · have h := h.2 c_1
    refine lv_iload_n hx hb dX6_isReadable_6 rfl (lv_at hl 0 rfl) ?_
    refine lv_bipush (v := (41 : Int32)) hx hb dX6_isReadable_7 (by decide) ?_
    refine lv_icmp_eq (tgt := 37) hx hb dX6_isReadable_9 (by decide) (fun c_2 => ?_) (fun c_2 => ?_)
    · have h := h.1 c_2
      refine lv_iconst (v := (1 : Int32)) hx hb dX6_isReadable_37 (by decide) ?_
      refine lv_goto (tgt := 42) hx hb dX6_isReadable_38 (by decide) ?_
      exact rtS hC hr hlk (by decide) h dX6_isReadable_42
    · have h := h.2 c_2
      refine lv_iload_n hx hb dX6_isReadable_12 rfl (lv_at hl 0 rfl) ?_
      refine lv_bipush (v := (39 : Int32)) hx hb dX6_isReadable_13 (by decide) ?_
      refine lv_icmp_eq (tgt := 37) hx hb dX6_isReadable_15 (by decide) (fun c_3 => ?_) (fun c_3 => ?_)
      · have h := h.1 c_3
        refine lv_iconst (v := (1 : Int32)) hx hb dX6_isReadable_37 (by decide) ?_
        refine lv_goto (tgt := 42) hx hb dX6_isReadable_38 (by decide) ?_
        exact rtS hC hr hlk (by decide) h dX6_isReadable_42
      · have h := h.2 c_3
        refine lv_iload_n hx hb dX6_isReadable_18 rfl (lv_at hl 0 rfl) ?_
        refine lv_bipush (v := (32 : Int32)) hx hb dX6_isReadable_19 (by decide) ?_
        refine lv_icmp_eq (tgt := 37) hx hb dX6_isReadable_21 (by decide) (fun c_4 => ?_) (fun c_4 => ?_)
        · have h := h.1 c_4
          refine lv_iconst (v := (1 : Int32)) hx hb dX6_isReadable_37 (by decide) ?_
          refine lv_goto (tgt := 42) hx hb dX6_isReadable_38 (by decide) ?_
          exact rtS hC hr hlk (by decide) h dX6_isReadable_42
        · have h := h.2 c_4
          refine lv_iload_n hx hb dX6_isReadable_24 rfl (lv_at hl 0 rfl) ?_
          refine lv_bipush (v := (10 : Int32)) hx hb dX6_isReadable_25 (by decide) ?_
          refine lv_icmp_eq (tgt := 37) hx hb dX6_isReadable_27 (by decide) (fun c_5 => ?_) (fun c_5 => ?_)
          · have h := h.1 c_5
            refine lv_iconst (v := (1 : Int32)) hx hb dX6_isReadable_37 (by decide) ?_
            refine lv_goto (tgt := 42) hx hb dX6_isReadable_38 (by decide) ?_
            exact rtS hC hr hlk (by decide) h dX6_isReadable_42
          · have h := h.2 c_5
            refine lv_iload_n hx hb dX6_isReadable_30 rfl (lv_at hl 0 rfl) ?_
            refine cSI ksX6_40 hC (m_X6_isOfAtom l x0 h) rfl rfl ⟨by decide, by decide⟩ rfl hl.1 (Nat.le_of_ble_eq_true rfl) dX6_isReadable_31 ⟨Nat.zero_le _, Nat.zero_le _⟩ rfl ?_
            intro r_6 h
            refine lv_if_eq (tgt := 41) hx hb dX6_isReadable_34 (by decide) (fun c_7 => ?_) (fun c_7 => ?_)
            · have h := h.1 c_7
              refine lv_iconst (v := (0 : Int32)) hx hb dX6_isReadable_41 (by decide) ?_
              exact rtS hC hr hlk (by decide) h dX6_isReadable_42
            · have h := h.2 c_7
              refine lv_iconst (v := (1 : Int32)) hx hb dX6_isReadable_37 (by decide) ?_
              refine lv_goto (tgt := 42) hx hb dX6_isReadable_38 (by decide) ?_
              exact rtS hC hr hlk (by decide) h dX6_isReadable_42
def V_X3_at (x0 : Int32) (post : Nat → Prop) : Prop := ((x0 < 0 → post 0) ∧ (¬ x0 < 0 → (((32 : Int32) ≤ x0 → post 0) ∧ (¬ (32 : Int32) ≤ x0 → (vp_in x0 32 ∧ post x0.toNatClampNeg)))))
abbrev RM_X3_at : Room := { frames := 0, cells := 0, slots := 0, locals := 0 }
set_option maxHeartbeats 4000000 in
set_option maxRecDepth 100000 in
theorem m_X3_at (l : Launch) (D : va_G) (cI cC cZ cJ : ClassId) (ea : Nat → Nat → Nat) (x0 : Int32) {post : Nat → Prop} (h : V_X3_at x0 post) : MetRE ea l yX3_at cX3_at 1 (.object "TagMachine$Operator") RM_X3_at D (ty4 cI cC cZ cJ) [.int x0] post := by
  refine mkRE (by decide) (Nat.le_of_ble_eq_true rfl) ?_
  intro p e s m args below meth c A ls hC hr hlk hw hE hl
  have hx := hC.1
  have hb := hC.2.1
  have hl : lv_has ls 1 [(0, .int x0)] := hl
  unfold V_X3_at at h
  refine lv_iload_n hx hb dX3_at_0 rfl (lv_at hl 0 rfl) ?_
  refine lv_if_lt (tgt := 20) hx hb dX3_at_1 (by decide) (fun c_1 => ?_) (fun c_1 => ?_)
  · have h := h.1 c_1
    refine gts kzX3_5 hC hw hE.2.2.1 dX3_at_20 ?_
    exact rtR 0 hC hr hlk hw h dX3_at_23
  · have h := h.2 c_1
    refine lv_iload_n hx hb dX3_at_4 rfl (lv_at hl 0 rfl) ?_
    refine gts kzX3_132 hC hw hE.1 dX3_at_5 ?_
    refine va_tlen (v := (32 : Int32)) hx hb hE.2.1 hw.2.2.2.1 (by decide) dX3_at_8 ?_
    refine lv_icmp_ge (tgt := 20) hx hb dX3_at_9 (by decide) (fun c_2 => ?_) (fun c_2 => ?_)
    · have h := h.1 c_2
      refine gts kzX3_5 hC hw hE.2.2.1 dX3_at_20 ?_
      exact rtR 0 hC hr hlk hw h dX3_at_23
    · have h := h.2 c_2
      refine gts kzX3_132 hC hw hE.1 dX3_at_12 ?_
      refine lv_iload_n hx hb dX3_at_15 rfl (lv_at hl 0 rfl) ?_
      refine vb_tq hx hb hE.2.1 hw.2.2.2.1 h.1 rfl dX3_at_16 ?_
      have h := h.2
      refine lv_goto (tgt := 23) hx hb dX3_at_17 (by decide) ?_
      exact rtR x0.toNatClampNeg hC hr hlk hw h dX3_at_23
def V_X3_isNamed_21 (L : Nat) (post : Int32 → Prop) : Nat → Nat → Int32 → Int32 → (Nat → Int32) → Prop
  | 0, _, _, _, _ => False
  | n + 1, x0, x2, x3, f => ((x2 ≤ x3 → post (1 : Int32)) ∧ (¬ x2 ≤ x3 → (x0 < 32 ∧ (x0 < 37 ∧ V_J0_charAt_5068e x0 x3 (fun r_2 => (vp_in x3 L ∧ ((r_2 = (f x3.toNatClampNeg) → ∀ x_4 : Int32, x_4 = x3 + (1 : Int32) → V_X3_isNamed_21 L post n x0 x2 x_4 f) ∧ (¬ r_2 = (f x3.toNatClampNeg) → post (0 : Int32)))))))))
def V_X3_isNamed (L : Nat) (n : Nat) (x0 : Nat) (x2 : Int32) (f : (Nat → Int32)) (post : Int32 → Prop) : Prop := (x0 < 32 ∧ (x0 < 37 ∧ V_J0_length_8abf5 x0 (fun r_5 => ((¬ r_5 = x2 → post (0 : Int32)) ∧ (r_5 = x2 → ((x2 ≤ (Int32.ofNat L) → ∀ x_8 : Int32, x_8 = (0 : Int32) → V_X3_isNamed_21 L post n x0 x2 x_8 f) ∧ (¬ x2 ≤ (Int32.ofNat L) → post (0 : Int32))))))))
abbrev RM_X3_isNamed : Room := { frames := 4, cells := 0, slots := 0, locals := 85 }
set_option maxHeartbeats 4000000 in
set_option maxRecDepth 100000 in
theorem m_X3_isNamed (l : Launch) (D : va_G) (cI cC cZ cJ : ClassId) (nm : Nat) (L : Nat) (ea : Nat → Nat → Nat) (n : Nat) (x0 : Nat) (x2 : Int32) (f : (Nat → Int32)) {post : Int32 → Prop} (h : V_X3_isNamed L n x0 x2 f post) : MetIE ea l yX3_isNamed cX3_isNamed 4 .boolean RM_X3_isNamed D (ty4 cI cC cZ cJ) (wNm nm cC L f) [.ref (ea 0 x0), .ref (nm), .int x2] (fun _ : Unit => (wNm nm cC L f)) (fun (r : Int32) (_ : Unit) => post r) := by
  refine mkIE (by decide) (Nat.le_of_ble_eq_true rfl) ?_
  intro p e s m args below meth c A ls hC hr hlk hw hE hl
  have hx := hC.1
  have hb := hC.2.1
  have hl : lv_has ls 4 [(0, .ref (ea 0 x0)), (1, .ref (nm)), (2, .int x2)] := hl
  have w_21 : ∀ (n : Nat) (x0 : Nat) (x2 : Int32) (x3 : Int32) (f : (Nat → Int32)) (H : Heap) (locs : List Loc) (ls : Array Slot), V_X3_isNamed_21 L post n x0 x2 x3 f → Wd D (ty4 cI cC cZ cJ) A s (wNm nm cC L f) H locs → lv_has ls 4 [(0, .ref (ea 0 x0)), (1, .ref (nm)), (2, .int x2), (3, .int x3)] → W p l e RM_X3_isNamed s m args below meth c H locs 0 0 (QI below D (ty4 cI cC cZ cJ) A args s (fun _ : Unit => (wNm nm cC L f)) (fun (r : Int32) (_ : Unit) => post r)) (F0 m 21 ls []) := by
    intro n
    induction n with
    | zero =>
      intro x0 x2 x3 f H locs ls h
      exact False.elim h
    | succ n ih =>
      intro x0 x2 x3 f H locs ls h hw hl
      rw [V_X3_isNamed_21] at h
      refine lv_iload_n hx hb dX3_isNamed_21 rfl (lv_at hl 3 rfl) ?_
      refine lv_iload_n hx hb dX3_isNamed_22 rfl (lv_at hl 2 rfl) ?_
      refine lv_icmp_ge (tgt := 48) hx hb dX3_isNamed_23 (by decide) (fun c_1 => ?_) (fun c_1 => ?_)
      · have h := h.1 c_1
        refine lv_iconst (v := (1 : Int32)) hx hb dX3_isNamed_48 (by decide) ?_
        exact rtI (wf := (fun _ : Unit => (wNm nm cC L f))) () hC hr hlk hw (by decide) h dX3_isNamed_49
      · have h := h.2 c_1
        refine lv_aload_n hx hb dX3_isNamed_26 rfl (lv_at hl 0 rfl) ?_
        refine gtO koX3_121 hC hw (hE.2.2.2.2.2.2.1 _ h.1).2.2.2.2 dX3_isNamed_27 ?_
        have h := h.2
        refine lv_iload_n hx hb dX3_isNamed_30 rfl (lv_at hl 3 rfl) ?_
        refine cVI0 kmX3_145 hC hw hE (m_J0_charAt_5068e l D cI cC cZ cJ ea x0 x3 h.2) rfl rfl ⟨by decide, by decide⟩ (va_Orecv (hE.2.2.2.2.2.2.2.1 _ h.1).1 hw.2.2.2.1) rfl hl.1 (Nat.le_of_ble_eq_true rfl) dX3_isNamed_31 ⟨Nat.zero_le _, Nat.zero_le _⟩ rfl ?_
        intro r_2 H locs h hw
        refine lv_aload_n hx hb dX3_isNamed_34 rfl (lv_at hl 1 rfl) ?_
        refine lv_iload_n hx hb dX3_isNamed_35 rfl (lv_at hl 3 rfl) ?_
        refine ldC 0 1 hC hw rfl rfl h.1 dX3_isNamed_36 ?_
        have h := h.2
        refine lv_icmp_eq (tgt := 42) hx hb dX3_isNamed_37 (by decide) (fun c_3 => ?_) (fun c_3 => ?_)
        · have h := h.1 c_3
          obtain ⟨x_4, ex_4⟩ : ∃ y : Int32, y = x3 + (1 : Int32) := ⟨_, rfl⟩
          have h := h x_4 ex_4
          refine lv_iinc (v := x_4) (lv' := [(3, .int x_4), (0, .ref (ea 0 x0)), (1, .ref (nm)), (2, .int x2)]) hx hb dX3_isNamed_42 hl (k := 3) rfl (by rw [ex_4]; rfl) (by decide) rfl (fun ls hl => ?_)
          refine lv_goto (tgt := 21) hx hb dX3_isNamed_45 (by decide) ?_
          exact ih x0 x2 x_4 f _ _ _ h hw (lv_sub hl [1, 2, 3, 0] rfl)
        · have h := h.2 c_3
          refine lv_iconst (v := (0 : Int32)) hx hb dX3_isNamed_40 (by decide) ?_
          exact rtI (wf := (fun _ : Unit => (wNm nm cC L f))) () hC hr hlk hw (by decide) h dX3_isNamed_41
  unfold V_X3_isNamed at h
  refine lv_aload_n hx hb dX3_isNamed_0 rfl (lv_at hl 0 rfl) ?_
  refine gtO koX3_121 hC hw (hE.2.2.2.2.2.2.1 _ h.1).2.2.2.2 dX3_isNamed_1 ?_
  have h := h.2
  refine cVI0 kmX3_139 hC hw hE (m_J0_length_8abf5 l D cI cC cZ cJ ea x0 h.2) rfl rfl ⟨by decide, by decide⟩ (va_Orecv (hE.2.2.2.2.2.2.2.1 _ h.1).1 hw.2.2.2.1) rfl hl.1 (Nat.le_of_ble_eq_true rfl) dX3_isNamed_4 ⟨Nat.zero_le _, Nat.zero_le _⟩ rfl ?_
  intro r_5 H locs h hw
  refine lv_iload_n hx hb dX3_isNamed_7 rfl (lv_at hl 2 rfl) ?_
  refine lv_icmp_ne (tgt := 17) hx hb dX3_isNamed_8 (by decide) (fun c_6 => ?_) (fun c_6 => ?_)
  · have h := h.1 c_6
    refine lv_iconst (v := (0 : Int32)) hx hb dX3_isNamed_17 (by decide) ?_
    exact rtI (wf := (fun _ : Unit => (wNm nm cC L f))) () hC hr hlk hw (by decide) h dX3_isNamed_18
  · have h := h.2 c_6
    refine lv_aload_n hx hb dX3_isNamed_11 rfl (lv_at hl 1 rfl) ?_
    refine aln 0 1 (v := (Int32.ofNat L)) hC hw rfl rfl rfl dX3_isNamed_12 ?_
    refine lv_iload_n hx hb dX3_isNamed_13 rfl (lv_at hl 2 rfl) ?_
    refine lv_icmp_ge (tgt := 19) hx hb dX3_isNamed_14 (by decide) (fun c_7 => ?_) (fun c_7 => ?_)
    · have h := h.1 c_7
      refine lv_iconst (v := (0 : Int32)) hx hb dX3_isNamed_19 (by decide) ?_
      refine lv_topi (fun x_8 ex_8 => ?_)
      have h := h x_8 ex_8
      refine lv_istore_n (lv' := [(3, .int x_8), (0, .ref (ea 0 x0)), (1, .ref (nm)), (2, .int x2)]) hx hb dX3_isNamed_20 rfl hl (by decide) rfl (fun ls hl => ?_)
      exact w_21 n x0 x2 x_8 f _ _ _ h hw (lv_sub hl [1, 2, 3, 0] rfl)
    · have h := h.2 c_7
      refine lv_iconst (v := (0 : Int32)) hx hb dX3_isNamed_17 (by decide) ?_
      exact rtI (wf := (fun _ : Unit => (wNm nm cC L f))) () hC hr hlk hw (by decide) h dX3_isNamed_18
def V_X3_indexOf_2 (L : Nat) (post : Int32 → Prop) : Nat → Int32 → Int32 → (Nat → Int32) → Prop
  | 0, _, _, _ => False
  | n + 1, x1, x2, f => (((32 : Int32) ≤ x2 → post (0 : Int32)) ∧ (¬ (32 : Int32) ≤ x2 → (vp_in x2 32 ∧ (x2.toNatClampNeg < 32 ∧ V_X3_isNamed L n x2.toNatClampNeg x1 f (fun r_2 => ((r_2 = 0 → ∀ x_5 : Int32, x_5 = x2 + (1 : Int32) → V_X3_indexOf_2 L post n x1 x_5 f) ∧ (¬ r_2 = 0 → post x2)))))))
def V_X3_indexOf (L : Nat) (n : Nat) (x1 : Int32) (f : (Nat → Int32)) (post : Int32 → Prop) : Prop := ∀ x_6 : Int32, x_6 = (1 : Int32) → V_X3_indexOf_2 L post n x1 x_6 f
abbrev RM_X3_indexOf : Room := { frames := 5, cells := 0, slots := 0, locals := 108 }
set_option maxHeartbeats 4000000 in
set_option maxRecDepth 100000 in
theorem m_X3_indexOf (l : Launch) (D : va_G) (cI cC cZ cJ : ClassId) (nm : Nat) (L : Nat) (ea : Nat → Nat → Nat) (n : Nat) (x1 : Int32) (f : (Nat → Int32)) {post : Int32 → Prop} (h : V_X3_indexOf L n x1 f post) : MetIE ea l yX3_indexOf cX3_indexOf 3 .int RM_X3_indexOf D (ty4 cI cC cZ cJ) (wNm nm cC L f) [.ref (nm), .int x1] (fun _ : Unit => (wNm nm cC L f)) (fun (r : Int32) (_ : Unit) => post r) := by
  refine mkIE (by decide) (Nat.le_of_ble_eq_true rfl) ?_
  intro p e s m args below meth c A ls hC hr hlk hw hE hl
  have hx := hC.1
  have hb := hC.2.1
  have hl : lv_has ls 3 [(0, .ref (nm)), (1, .int x1)] := hl
  have w_2 : ∀ (n : Nat) (x1 : Int32) (x2 : Int32) (f : (Nat → Int32)) (H : Heap) (locs : List Loc) (ls : Array Slot), V_X3_indexOf_2 L post n x1 x2 f → Wd D (ty4 cI cC cZ cJ) A s (wNm nm cC L f) H locs → lv_has ls 3 [(0, .ref (nm)), (1, .int x1), (2, .int x2)] → W p l e RM_X3_indexOf s m args below meth c H locs 0 0 (QI below D (ty4 cI cC cZ cJ) A args s (fun _ : Unit => (wNm nm cC L f)) (fun (r : Int32) (_ : Unit) => post r)) (F0 m 2 ls []) := by
    intro n
    induction n with
    | zero =>
      intro x1 x2 f H locs ls h
      exact False.elim h
    | succ n ih =>
      intro x1 x2 f H locs ls h hw hl
      rw [V_X3_indexOf_2] at h
      refine lv_iload_n hx hb dX3_indexOf_2 rfl (lv_at hl 2 rfl) ?_
      refine gts kzX3_132 hC hw hE.1 dX3_indexOf_3 ?_
      refine va_tlen (v := (32 : Int32)) hx hb hE.2.1 hw.2.2.2.1 (by decide) dX3_indexOf_6 ?_
      refine lv_icmp_ge (tgt := 31) hx hb dX3_indexOf_7 (by decide) (fun c_1 => ?_) (fun c_1 => ?_)
      · have h := h.1 c_1
        refine lv_iconst (v := (0 : Int32)) hx hb dX3_indexOf_31 (by decide) ?_
        exact rtI (wf := (fun _ : Unit => (wNm nm cC L f))) () hC hr hlk hw rfl h dX3_indexOf_32
      · have h := h.2 c_1
        refine gts kzX3_132 hC hw hE.1 dX3_indexOf_10 ?_
        refine lv_iload_n hx hb dX3_indexOf_13 rfl (lv_at hl 2 rfl) ?_
        refine vb_tq hx hb hE.2.1 hw.2.2.2.1 h.1 rfl dX3_indexOf_14 ?_
        have h := h.2
        refine lv_aload_n hx hb dX3_indexOf_15 rfl (lv_at hl 0 rfl) ?_
        refine lv_iload_n hx hb dX3_indexOf_16 rfl (lv_at hl 1 rfl) ?_
        refine cVIwe kmX3_135 hC hw hE (m_X3_isNamed l D cI cC cZ cJ nm L ea n x2.toNatClampNeg x1 f h.2) rfl rfl ⟨by decide, by decide⟩ (va_Orecv (hE.2.2.2.2.2.2.1 _ h.1).1 hw.2.2.2.1) rfl hl.1 (Nat.le_of_ble_eq_true rfl) dX3_indexOf_17 ⟨Nat.zero_le _, Nat.zero_le _⟩ rfl ?_
        intro r_2 _ H locs h hw
        refine lv_if_eq (tgt := 25) hx hb dX3_indexOf_20 (by decide) (fun c_4 => ?_) (fun c_4 => ?_)
        · have h := h.1 c_4
          obtain ⟨x_5, ex_5⟩ : ∃ y : Int32, y = x2 + (1 : Int32) := ⟨_, rfl⟩
          have h := h x_5 ex_5
          refine lv_iinc (v := x_5) (lv' := [(2, .int x_5), (0, .ref (nm)), (1, .int x1)]) hx hb dX3_indexOf_25 hl (k := 2) rfl (by rw [ex_5]; rfl) (by decide) rfl (fun ls hl => ?_)
          refine lv_goto (tgt := 2) hx hb dX3_indexOf_28 (by decide) ?_
          exact ih x1 x_5 f _ _ _ h hw (lv_sub hl [1, 2, 0] rfl)
        · have h := h.2 c_4
          refine lv_iload_n hx hb dX3_indexOf_23 rfl (lv_at hl 2 rfl) ?_
          exact rtI (wf := (fun _ : Unit => (wNm nm cC L f))) () hC hr hlk hw rfl h dX3_indexOf_24
  unfold V_X3_indexOf at h
  refine lv_iconst (v := (1 : Int32)) hx hb dX3_indexOf_0 (by decide) ?_
  refine lv_topi (fun x_6 ex_6 => ?_)
  have h := h x_6 ex_6
  refine lv_istore_n (lv' := [(2, .int x_6), (0, .ref (nm)), (1, .int x1)]) hx hb dX3_indexOf_1 rfl hl (by decide) rfl (fun ls hl => ?_)
  exact w_2 n x1 x_6 f _ _ _ h hw (lv_sub hl [1, 2, 0] rfl)
