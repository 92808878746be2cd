set_option maxHeartbeats 4000000 in
set_option maxRecDepth 100000 in
theorem m_L_type (ea : Nat → Nat → Nat) (l : Launch) (D : va_G) (cI cC cZ cJ : ClassId) (ad : Nat → Nat) (o N : Nat) (n : Nat) (v : Int32) (G : SG) (f : Nat → Int64) {post : Int32 → SG → (Nat → Int64) → Prop} (hlt : l.stackTraces = false) (h : V_X11_type N (fun E G1 => ∃ i, ES_type[i]? = some E ∧ post (nI (i + 1)) G1 f) n v G (fun r G1 => post 0 G1 (vp_updL f 0 r.toInt64))) : MetH ea l yL_type cL_type 4 hhL_type { frames := 130, cells := 1, slots := 6, locals := 3300 } D (ty4 cI cC cZ cJ) (wO ad o cI cC cZ cJ N G f) [.ref (ad 0), .int v, .ref o] (fun u : SG × (Nat → Int64) => wO ad o cI cC cZ cJ N u.1 u.2) (fun r u => post r u.1 u.2) := by
  refine mkH (by decide) (Nat.le_of_ble_eq_true rfl) ?_
  intro p e s m args below meth c A ls hC hr hlk htab hw hE hN hl
  have hx := hC.1
  have hb := hC.2.1
  have hl : lv_has ls 4 [(0, .ref (ad 0)), (1, .int v), (2, .ref o)] := hl
  refine lv_aload_n hx hb dL_type_0 rfl (lv_at hl 2 rfl) ?_
  refine lv_iconst (v := 0) hx hb dL_type_1 (by decide) ?_
  refine lv_aload_n hx hb dL_type_2 rfl (lv_at hl 0 rfl) ?_
  refine lv_iload_n hx hb dL_type_3 rfl (lv_at hl 1 rfl) ?_
  refine cVX (wf := fun u : SG => wT ad cI cC cZ cJ N u) (wn := fun u : SG => wO ad o cI cC cZ cJ N u f) (wr := [(o, .inl (cJ, 1, .inr (.inl f)))]) (q0 := 0) kmL_7 hC hw hE (m_X11_type l D cI cC cZ cJ ad N _ ea n v G hlt h) [0, 1, 2, 3, 4, 5, 6, 7, 8, 9, 10, 11, 12, 13, 14, 15, 16, 17, 18, 19, 20, 21, 22, 23, 24, 25, 26, 27, 28] [29] [1, 2, 3, 4, 5, 6, 7, 8, 9, 10, 11, 12, 13, 14, 15, 16, 17, 18, 19, 20, 21, 22, 23, 24, 25, 26, 27, 28, 29, 0] rfl rfl rfl rfl (by decide) rfl (fun _ => rfl) rfl rfl ⟨Nat.le_of_ble_eq_true rfl, Nat.le_of_ble_eq_true rfl⟩ rfl rfl rfl hl.1 (Nat.le_of_ble_eq_true rfl) dL_type_4 ⟨Nat.le_of_ble_eq_true rfl, Nat.le_of_ble_eq_true rfl⟩ rfl (fun E ce q9 u H locs hp hw hcell hv hcl => ?_) (fun r u H locs hp hw => ?_)
  · obtain ⟨i, hi, hp⟩ := hp
    match i, hi with
    | 0, hi =>
      cases Option.some.inj hi
      refine vx_catch hC.2.2.2.1 [] ⟨0, 9, 12, 13⟩ [⟨0, 9, 15, 15⟩, ⟨0, 9, 18, 17⟩, ⟨0, 9, 21, 19⟩, ⟨0, 9, 24, 21⟩, ⟨0, 9, 27, 23⟩] htab ?_ (by decide) (by decide) (hC.2.2.2.2 _ (List.mem_cons_of_mem _ kcL_13)) (va_Nw.use rfl hE.2.2.2.2.2.2.2.2.1.2.2.2.2.2.2.2.2.2.2.2.1) hcell hv hcl ?_
      · intro z hz
        cases hz
      · refine lv_astore_n (lv' := [(3, .ref q9), (0, .ref (ad 0)), (1, .int v), (2, .ref o)]) hx hb dL_type_12 rfl hl (by decide) rfl (fun ls hl => ?_)
        refine lv_iconst (v := 1) hx hb dL_type_13 (by decide) ?_
        exact rtH (wf := fun u : SG × (Nat → Int64) => wO ad o cI cC cZ cJ N u.1 u.2) (u, f) hC hr hlk hw hp (Nat.le_refl _) (Nat.le_refl _) dL_type_14
    | 1, hi =>
      cases Option.some.inj hi
      refine vx_catch hC.2.2.2.1 [⟨0, 9, 12, 13⟩] ⟨0, 9, 15, 15⟩ [⟨0, 9, 18, 17⟩, ⟨0, 9, 21, 19⟩, ⟨0, 9, 24, 21⟩, ⟨0, 9, 27, 23⟩] htab ?_ (by decide) (by decide) (hC.2.2.2.2 _ (List.mem_cons_of_mem _ kcL_15)) (va_Nw.use rfl hE.2.2.2.2.2.2.2.2.1.2.2.2.2.2.2.2.2.2.2.2.2.1) hcell hv hcl ?_
      · intro z hz
        rcases List.mem_cons.mp hz with rfl | hz
        · exact Or.inr ⟨by decide, _, hC.2.2.2.2 _ (List.mem_cons_of_mem _ kcL_13), hN _ (by decide) _ (by decide) (by decide)⟩
        cases hz
      · refine lv_astore_n (lv' := [(3, .ref q9), (0, .ref (ad 0)), (1, .int v), (2, .ref o)]) hx hb dL_type_15 rfl hl (by decide) rfl (fun ls hl => ?_)
        refine lv_iconst (v := 2) hx hb dL_type_16 (by decide) ?_
        exact rtH (wf := fun u : SG × (Nat → Int64) => wO ad o cI cC cZ cJ N u.1 u.2) (u, f) hC hr hlk hw hp (Nat.le_refl _) (Nat.le_refl _) dL_type_17
    | 2, hi =>
      cases Option.some.inj hi
      refine vx_catch hC.2.2.2.1 [⟨0, 9, 12, 13⟩, ⟨0, 9, 15, 15⟩] ⟨0, 9, 18, 17⟩ [⟨0, 9, 21, 19⟩, ⟨0, 9, 24, 21⟩, ⟨0, 9, 27, 23⟩] htab ?_ (by decide) (by decide) (hC.2.2.2.2 _ (List.mem_cons_of_mem _ kcL_17)) (va_Nw.use rfl hE.2.2.2.2.2.2.2.2.1.2.2.2.2.2.2.2.2.2.2.2.2.2.1) hcell hv hcl ?_
      · intro z hz
        rcases List.mem_cons.mp hz with rfl | hz
        · exact Or.inr ⟨by decide, _, hC.2.2.2.2 _ (List.mem_cons_of_mem _ kcL_13), hN _ (by decide) _ (by decide) (by decide)⟩
        rcases List.mem_cons.mp hz with rfl | hz
        · exact Or.inr ⟨by decide, _, hC.2.2.2.2 _ (List.mem_cons_of_mem _ kcL_15), hN _ (by decide) _ (by decide) (by decide)⟩
        cases hz
      · refine lv_astore_n (lv' := [(3, .ref q9), (0, .ref (ad 0)), (1, .int v), (2, .ref o)]) hx hb dL_type_18 rfl hl (by decide) rfl (fun ls hl => ?_)
        refine lv_iconst (v := 3) hx hb dL_type_19 (by decide) ?_
        exact rtH (wf := fun u : SG × (Nat → Int64) => wO ad o cI cC cZ cJ N u.1 u.2) (u, f) hC hr hlk hw hp (Nat.le_refl _) (Nat.le_refl _) dL_type_20
    | 3, hi =>
      cases Option.some.inj hi
      refine vx_catch hC.2.2.2.1 [⟨0, 9, 12, 13⟩, ⟨0, 9, 15, 15⟩, ⟨0, 9, 18, 17⟩] ⟨0, 9, 21, 19⟩ [⟨0, 9, 24, 21⟩, ⟨0, 9, 27, 23⟩] htab ?_ (by decide) (by decide) (hC.2.2.2.2 _ (List.mem_cons_of_mem _ kcL_19)) (va_Nw.use rfl hE.2.2.2.2.2.2.2.2.1.2.2.2.2.2.2.2.2.2.2.2.2.2.2.1) hcell hv hcl ?_
      · intro z hz
        rcases List.mem_cons.mp hz with rfl | hz
        · exact Or.inr ⟨by decide, _, hC.2.2.2.2 _ (List.mem_cons_of_mem _ kcL_13), hN _ (by decide) _ (by decide) (by decide)⟩
        rcases List.mem_cons.mp hz with rfl | hz
        · exact Or.inr ⟨by decide, _, hC.2.2.2.2 _ (List.mem_cons_of_mem _ kcL_15), hN _ (by decide) _ (by decide) (by decide)⟩
        rcases List.mem_cons.mp hz with rfl | hz
        · exact Or.inr ⟨by decide, _, hC.2.2.2.2 _ (List.mem_cons_of_mem _ kcL_17), hN _ (by decide) _ (by decide) (by decide)⟩
        cases hz
      · refine lv_astore_n (lv' := [(3, .ref q9), (0, .ref (ad 0)), (1, .int v), (2, .ref o)]) hx hb dL_type_21 rfl hl (by decide) rfl (fun ls hl => ?_)
        refine lv_iconst (v := 4) hx hb dL_type_22 (by decide) ?_
        exact rtH (wf := fun u : SG × (Nat → Int64) => wO ad o cI cC cZ cJ N u.1 u.2) (u, f) hC hr hlk hw hp (Nat.le_refl _) (Nat.le_refl _) dL_type_23
    | 4, hi =>
      cases Option.some.inj hi
      refine vx_catch hC.2.2.2.1 [⟨0, 9, 12, 13⟩, ⟨0, 9, 15, 15⟩, ⟨0, 9, 18, 17⟩, ⟨0, 9, 21, 19⟩] ⟨0, 9, 24, 21⟩ [⟨0, 9, 27, 23⟩] htab ?_ (by decide) (by decide) (hC.2.2.2.2 _ (List.mem_cons_of_mem _ kcL_21)) (va_Nw.use rfl hE.2.2.2.2.2.2.2.2.1.2.2.2.2.2.2.2.2.2.2.2.2.2.2.2.1) hcell hv hcl ?_
      · intro z hz
        rcases List.mem_cons.mp hz with rfl | hz
        · exact Or.inr ⟨by decide, _, hC.2.2.2.2 _ (List.mem_cons_of_mem _ kcL_13), hN _ (by decide) _ (by decide) (by decide)⟩
        rcases List.mem_cons.mp hz with rfl | hz
        · exact Or.inr ⟨by decide, _, hC.2.2.2.2 _ (List.mem_cons_of_mem _ kcL_15), hN _ (by decide) _ (by decide) (by decide)⟩
        rcases List.mem_cons.mp hz with rfl | hz
        · exact Or.inr ⟨by decide, _, hC.2.2.2.2 _ (List.mem_cons_of_mem _ kcL_17), hN _ (by decide) _ (by decide) (by decide)⟩
        rcases List.mem_cons.mp hz with rfl | hz
        · exact Or.inr ⟨by decide, _, hC.2.2.2.2 _ (List.mem_cons_of_mem _ kcL_19), hN _ (by decide) _ (by decide) (by decide)⟩
        cases hz
      · refine lv_astore_n (lv' := [(3, .ref q9), (0, .ref (ad 0)), (1, .int v), (2, .ref o)]) hx hb dL_type_24 rfl hl (by decide) rfl (fun ls hl => ?_)
        refine lv_iconst (v := 5) hx hb dL_type_25 (by decide) ?_
        exact rtH (wf := fun u : SG × (Nat → Int64) => wO ad o cI cC cZ cJ N u.1 u.2) (u, f) hC hr hlk hw hp (Nat.le_refl _) (Nat.le_refl _) dL_type_26
    | 5, hi =>
      cases Option.some.inj hi
      refine vx_catch hC.2.2.2.1 [⟨0, 9, 12, 13⟩, ⟨0, 9, 15, 15⟩, ⟨0, 9, 18, 17⟩, ⟨0, 9, 21, 19⟩, ⟨0, 9, 24, 21⟩] ⟨0, 9, 27, 23⟩ [] htab ?_ (by decide) (by decide) (hC.2.2.2.2 _ (List.mem_cons_of_mem _ kcL_23)) (va_Nw.use rfl hE.2.2.2.2.2.2.2.2.1.2.2.2.2.2.2.2.2.2.2.2.2.2.2.2.2) hcell hv hcl ?_
      · intro z hz
        rcases List.mem_cons.mp hz with rfl | hz
        · exact Or.inr ⟨by decide, _, hC.2.2.2.2 _ (List.mem_cons_of_mem _ kcL_13), hN _ (by decide) _ (by decide) (by decide)⟩
        rcases List.mem_cons.mp hz with rfl | hz
        · exact Or.inr ⟨by decide, _, hC.2.2.2.2 _ (List.mem_cons_of_mem _ kcL_15), hN _ (by decide) _ (by decide) (by decide)⟩
        rcases List.mem_cons.mp hz with rfl | hz
        · exact Or.inr ⟨by decide, _, hC.2.2.2.2 _ (List.mem_cons_of_mem _ kcL_17), hN _ (by decide) _ (by decide) (by decide)⟩
        rcases List.mem_cons.mp hz with rfl | hz
        · exact Or.inr ⟨by decide, _, hC.2.2.2.2 _ (List.mem_cons_of_mem _ kcL_19), hN _ (by decide) _ (by decide) (by decide)⟩
        rcases List.mem_cons.mp hz with rfl | hz
        · exact Or.inr ⟨by decide, _, hC.2.2.2.2 _ (List.mem_cons_of_mem _ kcL_21), hN _ (by decide) _ (by decide) (by decide)⟩
        cases hz
      · refine lv_astore_n (lv' := [(3, .ref q9), (0, .ref (ad 0)), (1, .int v), (2, .ref o)]) hx hb dL_type_27 rfl hl (by decide) rfl (fun ls hl => ?_)
        refine lv_bipush (v := 6) hx hb dL_type_28 (by decide) ?_
        exact rtH (wf := fun u : SG × (Nat → Int64) => wO ad o cI cC cZ cJ N u.1 u.2) (u, f) hC hr hlk hw hp (Nat.le_refl _) (Nat.le_refl _) dL_type_30
    | i + 6, hi => cases hi
  · refine lv_i2l (v := r.toInt64) hx hb dL_type_7 rfl ?_
    refine stJ (ws' := wO ad o cI cC cZ cJ N u (vp_updL f 0 r.toInt64)) 29 3 hC hw rfl rfl vp01 rfl dL_type_8 (fun H locs hw => ?_)
    refine lv_goto (tgt := 31) hx hb dL_type_9 (by decide) ?_
    refine lv_iconst (v := 0) hx hb dL_type_31 (by decide) ?_
    exact rtH (wf := fun u : SG × (Nat → Int64) => wO ad o cI cC cZ cJ N u.1 u.2) (u, vp_updL f 0 r.toInt64) hC hr hlk hw hp (Nat.le_refl _) (Nat.le_refl _) dL_type_32
set_option maxHeartbeats 4000000 in
set_option maxRecDepth 100000 in
theorem m_L_take (ea : Nat → Nat → Nat) (l : Launch) (D : va_G) (cI cC cZ cJ : ClassId) (ad : Nat → Nat) (o N : Nat) (G : SG) (f : Nat → Int64) {post : Int32 → SG → (Nat → Int64) → Prop} (hlt : l.stackTraces = false) (h : V_X11_take N (fun E G1 => ∃ i, ES_take[i]? = some E ∧ post (nI (i + 1)) G1 f) G (fun r G1 => post 0 G1 (vp_updL f 0 r.toInt64))) : MetH ea l yL_take cL_take 3 hhL_take { frames := 130, cells := 1, slots := 6, locals := 3300 } D (ty4 cI cC cZ cJ) (wO ad o cI cC cZ cJ N G f) [.ref (ad 0), .ref o] (fun u : SG × (Nat → Int64) => wO ad o cI cC cZ cJ N u.1 u.2) (fun r u => post r u.1 u.2) := by
  refine mkH (by decide) (Nat.le_of_ble_eq_true rfl) ?_
  intro p e s m args below meth c A ls hC hr hlk htab hw hE hN hl
  have hx := hC.1
  have hb := hC.2.1
  have hl : lv_has ls 3 [(0, .ref (ad 0)), (1, .ref o)] := hl
  refine lv_aload_n hx hb dL_take_0 rfl (lv_at hl 1 rfl) ?_
  refine lv_iconst (v := 0) hx hb dL_take_1 (by decide) ?_
  refine lv_aload_n hx hb dL_take_2 rfl (lv_at hl 0 rfl) ?_
  refine cVX (wf := fun u : SG => wT ad cI cC cZ cJ N u) (wn := fun u : SG => wO ad o cI cC cZ cJ N u f) (wr := [(o, .inl (cJ, 1, .inr (.inl f)))]) (q0 := 0) kmL_25 hC hw hE (m_X11_take l D cI cC cZ cJ ad N _ ea G hlt h) [0, 1, 2, 3, 4, 5, 6, 7, 8, 9, 10, 11, 12, 13, 14, 15, 16, 17, 18, 19, 20, 21, 22, 23, 24, 25, 26, 27, 28] [29] [1, 2, 3, 4, 5, 6, 7, 8, 9, 10, 11, 12, 13, 14, 15, 16, 17, 18, 19, 20, 21, 22, 23, 24, 25, 26, 27, 28, 29, 0] rfl rfl rfl rfl (by decide) rfl (fun _ => rfl) rfl rfl ⟨Nat.le_of_ble_eq_true rfl, Nat.le_of_ble_eq_true rfl⟩ rfl rfl rfl hl.1 (Nat.le_of_ble_eq_true rfl) dL_take_3 ⟨Nat.le_of_ble_eq_true rfl, Nat.le_of_ble_eq_true rfl⟩ rfl (fun E ce q9 u H locs hp hw hcell hv hcl => ?_) (fun r u H locs hp hw => ?_)
  · obtain ⟨i, hi, hp⟩ := hp
    match i, hi with
    | 0, hi =>
      cases Option.some.inj hi
      refine vx_catch hC.2.2.2.1 [] ⟨0, 8, 11, 17⟩ [] htab ?_ (by decide) (by decide) (hC.2.2.2.2 _ (List.mem_cons_of_mem _ kcL_17)) (va_Nw.use rfl hE.2.2.2.2.2.2.2.2.1.2.2.2.2.2.2.2.2.2.2.2.2.2.1) hcell hv hcl ?_
      · intro z hz
        cases hz
      · refine lv_astore_n (lv' := [(2, .ref q9), (0, .ref (ad 0)), (1, .ref o)]) hx hb dL_take_11 rfl hl (by decide) rfl (fun ls hl => ?_)
        refine lv_iconst (v := 1) hx hb dL_take_12 (by decide) ?_
        exact rtH (wf := fun u : SG × (Nat → Int64) => wO ad o cI cC cZ cJ N u.1 u.2) (u, f) hC hr hlk hw hp (Nat.le_refl _) (Nat.le_refl _) dL_take_13
    | i + 1, hi => cases hi
  · refine lv_i2l (v := r.toInt64) hx hb dL_take_6 rfl ?_
    refine stJ (ws' := wO ad o cI cC cZ cJ N u (vp_updL f 0 r.toInt64)) 29 3 hC hw rfl rfl vp01 rfl dL_take_7 (fun H locs hw => ?_)
    refine lv_goto (tgt := 14) hx hb dL_take_8 (by decide) ?_
    refine lv_iconst (v := 0) hx hb dL_take_14 (by decide) ?_
    exact rtH (wf := fun u : SG × (Nat → Int64) => wO ad o cI cC cZ cJ N u.1 u.2) (u, vp_updL f 0 r.toInt64) hC hr hlk hw hp (Nat.le_refl _) (Nat.le_refl _) dL_take_15
set_option maxHeartbeats 4000000 in
set_option maxRecDepth 100000 in
theorem m_L_give (ea : Nat → Nat → Nat) (l : Launch) (D : va_G) (cI cC cZ cJ : ClassId) (ad : Nat → Nat) (o N : Nat) (v : Int32) (G : SG) (f : Nat → Int64) {post : Int32 → SG → (Nat → Int64) → Prop} (hlt : l.stackTraces = false) (h : V_X11_give N (fun E G1 => ∃ i, ES_give[i]? = some E ∧ post (nI (i + 1)) G1 f) v G (fun r G1 => post 0 G1 (vp_updL f 0 r.toInt64))) : MetH ea l yL_give cL_give 4 hhL_give { frames := 130, cells := 1, slots := 6, locals := 3300 } D (ty4 cI cC cZ cJ) (wO ad o cI cC cZ cJ N G f) [.ref (ad 0), .int v, .ref o] (fun u : SG × (Nat → Int64) => wO ad o cI cC cZ cJ N u.1 u.2) (fun r u => post r u.1 u.2) := by
  refine mkH (by decide) (Nat.le_of_ble_eq_true rfl) ?_
  intro p e s m args below meth c A ls hC hr hlk htab hw hE hN hl
  have hx := hC.1
  have hb := hC.2.1
  have hl : lv_has ls 4 [(0, .ref (ad 0)), (1, .int v), (2, .ref o)] := hl
  refine lv_aload_n hx hb dL_give_0 rfl (lv_at hl 2 rfl) ?_
  refine lv_iconst (v := 0) hx hb dL_give_1 (by decide) ?_
  refine lv_aload_n hx hb dL_give_2 rfl (lv_at hl 0 rfl) ?_
  refine lv_iload_n hx hb dL_give_3 rfl (lv_at hl 1 rfl) ?_
  refine cVX (wf := fun u : SG => wT ad cI cC cZ cJ N u) (wn := fun u : SG => wO ad o cI cC cZ cJ N u f) (wr := [(o, .inl (cJ, 1, .inr (.inl f)))]) (q0 := 0) kmL_29 hC hw hE (m_X11_give l D cI cC cZ cJ ad N _ ea v G hlt h) [0, 1, 2, 3, 4, 5, 6, 7, 8, 9, 10, 11, 12, 13, 14, 15, 16, 17, 18, 19, 20, 21, 22, 23, 24, 25, 26, 27, 28] [29] [1, 2, 3, 4, 5, 6, 7, 8, 9, 10, 11, 12, 13, 14, 15, 16, 17, 18, 19, 20, 21, 22, 23, 24, 25, 26, 27, 28, 29, 0] rfl rfl rfl rfl (by decide) rfl (fun _ => rfl) rfl rfl ⟨Nat.le_of_ble_eq_true rfl, Nat.le_of_ble_eq_true rfl⟩ rfl rfl rfl hl.1 (Nat.le_of_ble_eq_true rfl) dL_give_4 ⟨Nat.le_of_ble_eq_true rfl, Nat.le_of_ble_eq_true rfl⟩ rfl (fun E ce q9 u H locs hp hw hcell hv hcl => ?_) (fun r u H locs hp hw => ?_)
  · obtain ⟨i, hi, hp⟩ := hp
    match i, hi with
    | 0, hi =>
      cases Option.some.inj hi
      refine vx_catch hC.2.2.2.1 [] ⟨0, 9, 12, 13⟩ [⟨0, 9, 15, 19⟩] htab ?_ (by decide) (by decide) (hC.2.2.2.2 _ (List.mem_cons_of_mem _ kcL_13)) (va_Nw.use rfl hE.2.2.2.2.2.2.2.2.1.2.2.2.2.2.2.2.2.2.2.2.1) hcell hv hcl ?_
      · intro z hz
        cases hz
      · refine lv_astore_n (lv' := [(3, .ref q9), (0, .ref (ad 0)), (1, .int v), (2, .ref o)]) hx hb dL_give_12 rfl hl (by decide) rfl (fun ls hl => ?_)
        refine lv_iconst (v := 1) hx hb dL_give_13 (by decide) ?_
        exact rtH (wf := fun u : SG × (Nat → Int64) => wO ad o cI cC cZ cJ N u.1 u.2) (u, f) hC hr hlk hw hp (Nat.le_refl _) (Nat.le_refl _) dL_give_14
    | 1, hi =>
      cases Option.some.inj hi
      refine vx_catch hC.2.2.2.1 [⟨0, 9, 12, 13⟩] ⟨0, 9, 15, 19⟩ [] htab ?_ (by decide) (by decide) (hC.2.2.2.2 _ (List.mem_cons_of_mem _ kcL_19)) (va_Nw.use rfl hE.2.2.2.2.2.2.2.2.1.2.2.2.2.2.2.2.2.2.2.2.2.2.2.1) hcell hv hcl ?_
      · intro z hz
        rcases List.mem_cons.mp hz with rfl | hz
        · exact Or.inr ⟨by decide, _, hC.2.2.2.2 _ (List.mem_cons_of_mem _ kcL_13), hN _ (by decide) _ (by decide) (by decide)⟩
        cases hz
      · refine lv_astore_n (lv' := [(3, .ref q9), (0, .ref (ad 0)), (1, .int v), (2, .ref o)]) hx hb dL_give_15 rfl hl (by decide) rfl (fun ls hl => ?_)
        refine lv_iconst (v := 2) hx hb dL_give_16 (by decide) ?_
        exact rtH (wf := fun u : SG × (Nat → Int64) => wO ad o cI cC cZ cJ N u.1 u.2) (u, f) hC hr hlk hw hp (Nat.le_refl _) (Nat.le_refl _) dL_give_17
    | i + 2, hi => cases hi
  · refine lv_i2l (v := r.toInt64) hx hb dL_give_7 rfl ?_
    refine stJ (ws' := wO ad o cI cC cZ cJ N u (vp_updL f 0 r.toInt64)) 29 3 hC hw rfl rfl vp01 rfl dL_give_8 (fun H locs hw => ?_)
    refine lv_goto (tgt := 18) hx hb dL_give_9 (by decide) ?_
    refine lv_iconst (v := 0) hx hb dL_give_18 (by decide) ?_
    exact rtH (wf := fun u : SG × (Nat → Int64) => wO ad o cI cC cZ cJ N u.1 u.2) (u, vp_updL f 0 r.toInt64) hC hr hlk hw hp (Nat.le_refl _) (Nat.le_refl _) dL_give_19
set_option maxHeartbeats 4000000 in
set_option maxRecDepth 100000 in
theorem m_L_kind (ea : Nat → Nat → Nat) (l : Launch) (D : va_G) (cI cC cZ cJ : ClassId) (ad : Nat → Nat) (o N : Nat) (v : Int32) (G : SG) (f : Nat → Int64) {post : Int32 → SG → (Nat → Int64) → Prop} (hlt : l.stackTraces = false) (h : V_X11_kind N (fun E G1 => ∃ i, ES_kind[i]? = some E ∧ post (nI (i + 1)) G1 f) v G (fun r G1 => post 0 G1 (vp_updL f 0 r.toInt64))) : MetH ea l yL_kind cL_kind 4 hhL_kind { frames := 130, cells := 1, slots := 6, locals := 3300 } D (ty4 cI cC cZ cJ) (wO ad o cI cC cZ cJ N G f) [.ref (ad 0), .int v, .ref o] (fun u : SG × (Nat → Int64) => wO ad o cI cC cZ cJ N u.1 u.2) (fun r u => post r u.1 u.2) := by
  refine mkH (by decide) (Nat.le_of_ble_eq_true rfl) ?_
  intro p e s m args below meth c A ls hC hr hlk htab hw hE hN hl
  have hx := hC.1
  have hb := hC.2.1
  have hl : lv_has ls 4 [(0, .ref (ad 0)), (1, .int v), (2, .ref o)] := hl
  refine lv_aload_n hx hb dL_kind_0 rfl (lv_at hl 2 rfl) ?_
  refine lv_iconst (v := 0) hx hb dL_kind_1 (by decide) ?_
  refine lv_aload_n hx hb dL_kind_2 rfl (lv_at hl 0 rfl) ?_
  refine lv_iload_n hx hb dL_kind_3 rfl (lv_at hl 1 rfl) ?_
  refine cVX (wf := fun u : SG => wT ad cI cC cZ cJ N u) (wn := fun u : SG => wO ad o cI cC cZ cJ N u f) (wr := [(o, .inl (cJ, 1, .inr (.inl f)))]) (q0 := 0) kmL_32 hC hw hE (m_X11_kind l D cI cC cZ cJ ad N _ ea v G hlt h) [0, 1, 2, 3, 4, 5, 6, 7, 8, 9, 10, 11, 12, 13, 14, 15, 16, 17, 18, 19, 20, 21, 22, 23, 24, 25, 26, 27, 28] [29] [1, 2, 3, 4, 5, 6, 7, 8, 9, 10, 11, 12, 13, 14, 15, 16, 17, 18, 19, 20, 21, 22, 23, 24, 25, 26, 27, 28, 29, 0] rfl rfl rfl rfl (by decide) rfl (fun _ => rfl) rfl rfl ⟨Nat.le_of_ble_eq_true rfl, Nat.le_of_ble_eq_true rfl⟩ rfl rfl rfl hl.1 (Nat.le_of_ble_eq_true rfl) dL_kind_4 ⟨Nat.le_of_ble_eq_true rfl, Nat.le_of_ble_eq_true rfl⟩ rfl (fun E ce q9 u H locs hp hw hcell hv hcl => ?_) (fun r u H locs hp hw => ?_)
  · obtain ⟨i, hi, hp⟩ := hp
    match i, hi with
    | 0, hi =>
      cases Option.some.inj hi
      refine vx_catch hC.2.2.2.1 [] ⟨0, 9, 12, 13⟩ [] htab ?_ (by decide) (by decide) (hC.2.2.2.2 _ (List.mem_cons_of_mem _ kcL_13)) (va_Nw.use rfl hE.2.2.2.2.2.2.2.2.1.2.2.2.2.2.2.2.2.2.2.2.1) hcell hv hcl ?_
      · intro z hz
        cases hz
      · refine lv_astore_n (lv' := [(3, .ref q9), (0, .ref (ad 0)), (1, .int v), (2, .ref o)]) hx hb dL_kind_12 rfl hl (by decide) rfl (fun ls hl => ?_)
        refine lv_iconst (v := 1) hx hb dL_kind_13 (by decide) ?_
        exact rtH (wf := fun u : SG × (Nat → Int64) => wO ad o cI cC cZ cJ N u.1 u.2) (u, f) hC hr hlk hw hp (Nat.le_refl _) (Nat.le_refl _) dL_kind_14
    | i + 1, hi => cases hi
  · refine lv_i2l (v := r.toInt64) hx hb dL_kind_7 rfl ?_
    refine stJ (ws' := wO ad o cI cC cZ cJ N u (vp_updL f 0 r.toInt64)) 29 3 hC hw rfl rfl vp01 rfl dL_kind_8 (fun H locs hw => ?_)
    refine lv_goto (tgt := 15) hx hb dL_kind_9 (by decide) ?_
    refine lv_iconst (v := 0) hx hb dL_kind_15 (by decide) ?_
    exact rtH (wf := fun u : SG × (Nat → Int64) => wO ad o cI cC cZ cJ N u.1 u.2) (u, vp_updL f 0 r.toInt64) hC hr hlk hw hp (Nat.le_refl _) (Nat.le_refl _) dL_kind_16
set_option maxHeartbeats 4000000 in
set_option maxRecDepth 100000 in
theorem m_L_number (ea : Nat → Nat → Nat) (l : Launch) (D : va_G) (cI cC cZ cJ : ClassId) (ad : Nat → Nat) (o N : Nat) (v : Int32) (G : SG) (f : Nat → Int64) {post : Int32 → SG → (Nat → Int64) → Prop} (hlt : l.stackTraces = false) (h : V_X11_number N (fun E G1 => ∃ i, ES_number[i]? = some E ∧ post (nI (i + 1)) G1 f) v G (fun r G1 => post 0 G1 (vp_updL f 0 r.toInt64))) : MetH ea l yL_number cL_number 4 hhL_number { frames := 130, cells := 1, slots := 6, locals := 3300 } D (ty4 cI cC cZ cJ) (wO ad o cI cC cZ cJ N G f) [.ref (ad 0), .int v, .ref o] (fun u : SG × (Nat → Int64) => wO ad o cI cC cZ cJ N u.1 u.2) (fun r u => post r u.1 u.2) := by
  refine mkH (by decide) (Nat.le_of_ble_eq_true rfl) ?_
  intro p e s m args below meth c A ls hC hr hlk htab hw hE hN hl
  have hx := hC.1
  have hb := hC.2.1
  have hl : lv_has ls 4 [(0, .ref (ad 0)), (1, .int v), (2, .ref o)] := hl
  refine lv_aload_n hx hb dL_number_0 rfl (lv_at hl 2 rfl) ?_
  refine lv_iconst (v := 0) hx hb dL_number_1 (by decide) ?_
  refine lv_aload_n hx hb dL_number_2 rfl (lv_at hl 0 rfl) ?_
  refine lv_iload_n hx hb dL_number_3 rfl (lv_at hl 1 rfl) ?_
  refine cVX (wf := fun u : SG => wT ad cI cC cZ cJ N u) (wn := fun u : SG => wO ad o cI cC cZ cJ N u f) (wr := [(o, .inl (cJ, 1, .inr (.inl f)))]) (q0 := 0) kmL_35 hC hw hE (m_X11_number l D cI cC cZ cJ ad N _ ea v G hlt h) [0, 1, 2, 3, 4, 5, 6, 7, 8, 9, 10, 11, 12, 13, 14, 15, 16, 17, 18, 19, 20, 21, 22, 23, 24, 25, 26, 27, 28] [29] [1, 2, 3, 4, 5, 6, 7, 8, 9, 10, 11, 12, 13, 14, 15, 16, 17, 18, 19, 20, 21, 22, 23, 24, 25, 26, 27, 28, 29, 0] rfl rfl rfl rfl (by decide) rfl (fun _ => rfl) rfl rfl ⟨Nat.le_of_ble_eq_true rfl, Nat.le_of_ble_eq_true rfl⟩ rfl rfl rfl hl.1 (Nat.le_of_ble_eq_true rfl) dL_number_4 ⟨Nat.le_of_ble_eq_true rfl, Nat.le_of_ble_eq_true rfl⟩ rfl (fun E ce q9 u H locs hp hw hcell hv hcl => ?_) (fun r u H locs hp hw => ?_)
  · obtain ⟨i, hi, hp⟩ := hp
    match i, hi with
    | 0, hi =>
      cases Option.some.inj hi
      refine vx_catch hC.2.2.2.1 [] ⟨0, 9, 12, 13⟩ [⟨0, 9, 15, 19⟩] htab ?_ (by decide) (by decide) (hC.2.2.2.2 _ (List.mem_cons_of_mem _ kcL_13)) (va_Nw.use rfl hE.2.2.2.2.2.2.2.2.1.2.2.2.2.2.2.2.2.2.2.2.1) hcell hv hcl ?_
      · intro z hz
        cases hz
      · refine lv_astore_n (lv' := [(3, .ref q9), (0, .ref (ad 0)), (1, .int v), (2, .ref o)]) hx hb dL_number_12 rfl hl (by decide) rfl (fun ls hl => ?_)
        refine lv_iconst (v := 1) hx hb dL_number_13 (by decide) ?_
        exact rtH (wf := fun u : SG × (Nat → Int64) => wO ad o cI cC cZ cJ N u.1 u.2) (u, f) hC hr hlk hw hp (Nat.le_refl _) (Nat.le_refl _) dL_number_14
    | 1, hi =>
      cases Option.some.inj hi
      refine vx_catch hC.2.2.2.1 [⟨0, 9, 12, 13⟩] ⟨0, 9, 15, 19⟩ [] htab ?_ (by decide) (by decide) (hC.2.2.2.2 _ (List.mem_cons_of_mem _ kcL_19)) (va_Nw.use rfl hE.2.2.2.2.2.2.2.2.1.2.2.2.2.2.2.2.2.2.2.2.2.2.2.1) hcell hv hcl ?_
      · intro z hz
        rcases List.mem_cons.mp hz with rfl | hz
        · exact Or.inr ⟨by decide, _, hC.2.2.2.2 _ (List.mem_cons_of_mem _ kcL_13), hN _ (by decide) _ (by decide) (by decide)⟩
        cases hz
      · refine lv_astore_n (lv' := [(3, .ref q9), (0, .ref (ad 0)), (1, .int v), (2, .ref o)]) hx hb dL_number_15 rfl hl (by decide) rfl (fun ls hl => ?_)
        refine lv_iconst (v := 2) hx hb dL_number_16 (by decide) ?_
        exact rtH (wf := fun u : SG × (Nat → Int64) => wO ad o cI cC cZ cJ N u.1 u.2) (u, f) hC hr hlk hw hp (Nat.le_refl _) (Nat.le_refl _) dL_number_17
    | i + 2, hi => cases hi
  · refine lv_i2l (v := r.toInt64) hx hb dL_number_7 rfl ?_
    refine stJ (ws' := wO ad o cI cC cZ cJ N u (vp_updL f 0 r.toInt64)) 29 3 hC hw rfl rfl vp01 rfl dL_number_8 (fun H locs hw => ?_)
    refine lv_goto (tgt := 18) hx hb dL_number_9 (by decide) ?_
    refine lv_iconst (v := 0) hx hb dL_number_18 (by decide) ?_
    exact rtH (wf := fun u : SG × (Nat → Int64) => wO ad o cI cC cZ cJ N u.1 u.2) (u, vp_updL f 0 r.toInt64) hC hr hlk hw hp (Nat.le_refl _) (Nat.le_refl _) dL_number_19
set_option maxHeartbeats 4000000 in
set_option maxRecDepth 100000 in
theorem m_L_count (ea : Nat → Nat → Nat) (l : Launch) (D : va_G) (cI cC cZ cJ : ClassId) (ad : Nat → Nat) (o N : Nat) (v : Int32) (G : SG) (f : Nat → Int64) {post : Int32 → SG → (Nat → Int64) → Prop} (hlt : l.stackTraces = false) (h : V_X11_count N (fun E G1 => ∃ i, ES_count[i]? = some E ∧ post (nI (i + 1)) G1 f) v G (fun r G1 => post 0 G1 (vp_updL f 0 r.toInt64))) : MetH ea l yL_count cL_count 4 hhL_count { frames := 130, cells := 1, slots := 6, locals := 3300 } D (ty4 cI cC cZ cJ) (wO ad o cI cC cZ cJ N G f) [.ref (ad 0), .int v, .ref o] (fun u : SG × (Nat → Int64) => wO ad o cI cC cZ cJ N u.1 u.2) (fun r u => post r u.1 u.2) := by
  refine mkH (by decide) (Nat.le_of_ble_eq_true rfl) ?_
  intro p e s m args below meth c A ls hC hr hlk htab hw hE hN hl
  have hx := hC.1
  have hb := hC.2.1
  have hl : lv_has ls 4 [(0, .ref (ad 0)), (1, .int v), (2, .ref o)] := hl
  refine lv_aload_n hx hb dL_count_0 rfl (lv_at hl 2 rfl) ?_
  refine lv_iconst (v := 0) hx hb dL_count_1 (by decide) ?_
  refine lv_aload_n hx hb dL_count_2 rfl (lv_at hl 0 rfl) ?_
  refine lv_iload_n hx hb dL_count_3 rfl (lv_at hl 1 rfl) ?_
  refine cVX (wf := fun u : SG => wT ad cI cC cZ cJ N u) (wn := fun u : SG => wO ad o cI cC cZ cJ N u f) (wr := [(o, .inl (cJ, 1, .inr (.inl f)))]) (q0 := 0) kmL_38 hC hw hE (m_X11_count l D cI cC cZ cJ ad N _ ea v G hlt h) [0, 1, 2, 3, 4, 5, 6, 7, 8, 9, 10, 11, 12, 13, 14, 15, 16, 17, 18, 19, 20, 21, 22, 23, 24, 25, 26, 27, 28] [29] [1, 2, 3, 4, 5, 6, 7, 8, 9, 10, 11, 12, 13, 14, 15, 16, 17, 18, 19, 20, 21, 22, 23, 24, 25, 26, 27, 28, 29, 0] rfl rfl rfl rfl (by decide) rfl (fun _ => rfl) rfl rfl ⟨Nat.le_of_ble_eq_true rfl, Nat.le_of_ble_eq_true rfl⟩ rfl rfl rfl hl.1 (Nat.le_of_ble_eq_true rfl) dL_count_4 ⟨Nat.le_of_ble_eq_true rfl, Nat.le_of_ble_eq_true rfl⟩ rfl (fun E ce q9 u H locs hp hw hcell hv hcl => ?_) (fun r u H locs hp hw => ?_)
  · obtain ⟨i, hi, hp⟩ := hp
    match i, hi with
    | 0, hi =>
      cases Option.some.inj hi
      refine vx_catch hC.2.2.2.1 [] ⟨0, 9, 12, 13⟩ [] htab ?_ (by decide) (by decide) (hC.2.2.2.2 _ (List.mem_cons_of_mem _ kcL_13)) (va_Nw.use rfl hE.2.2.2.2.2.2.2.2.1.2.2.2.2.2.2.2.2.2.2.2.1) hcell hv hcl ?_
      · intro z hz
        cases hz
      · refine lv_astore_n (lv' := [(3, .ref q9), (0, .ref (ad 0)), (1, .int v), (2, .ref o)]) hx hb dL_count_12 rfl hl (by decide) rfl (fun ls hl => ?_)
        refine lv_iconst (v := 1) hx hb dL_count_13 (by decide) ?_
        exact rtH (wf := fun u : SG × (Nat → Int64) => wO ad o cI cC cZ cJ N u.1 u.2) (u, f) hC hr hlk hw hp (Nat.le_refl _) (Nat.le_refl _) dL_count_14
    | i + 1, hi => cases hi
  · refine lv_i2l (v := r.toInt64) hx hb dL_count_7 rfl ?_
    refine stJ (ws' := wO ad o cI cC cZ cJ N u (vp_updL f 0 r.toInt64)) 29 3 hC hw rfl rfl vp01 rfl dL_count_8 (fun H locs hw => ?_)
    refine lv_goto (tgt := 15) hx hb dL_count_9 (by decide) ?_
    refine lv_iconst (v := 0) hx hb dL_count_15 (by decide) ?_
    exact rtH (wf := fun u : SG × (Nat → Int64) => wO ad o cI cC cZ cJ N u.1 u.2) (u, vp_updL f 0 r.toInt64) hC hr hlk hw hp (Nat.le_refl _) (Nat.le_refl _) dL_count_16
