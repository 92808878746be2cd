/-- after the class answered t with out = f: the reference answers alike -/
def PP_type (v : Int32) (g : St) (k : StL) (post : SG → St → StL → (Nat → Int64) → Prop) (t : Int32) (G : SG) (f : Nat → Int64) : Prop := ∃ n2, V_X12_type n2 v g k (fun r g1 k1 => V_X12_thrown g1 k1 (fun t1 g2 k2 => t1 = t ∧ (t = 0 → f 0 = r.toInt64) ∧ post G g2 k2 f))
def LT_type (v : Int32) (N : Nat) (G : SG) (g : St) (k : StL) (f : Nat → Int64) (post : SG → St → StL → (Nat → Int64) → Prop) : Prop := ∃ n, V_X11_type N (fun E G1 => ∃ i, ES_type[i]? = some E ∧ PP_type v g k post (nI (i + 1)) G1 f) n v G (fun r G1 => PP_type v g k post 0 G1 (vp_updL f 0 r.toInt64))
/-- after the class answered t with out = f: the reference answers alike -/
def PP_take (v : Int32) (g : St) (k : StL) (post : SG → St → StL → (Nat → Int64) → Prop) (t : Int32) (G : SG) (f : Nat → Int64) : Prop := ∃ n2, V_X12_take n2 g k (fun r g1 k1 => V_X12_thrown g1 k1 (fun t1 g2 k2 => t1 = t ∧ (t = 0 → f 0 = r.toInt64) ∧ post G g2 k2 f))
def LT_take (v : Int32) (N : Nat) (G : SG) (g : St) (k : StL) (f : Nat → Int64) (post : SG → St → StL → (Nat → Int64) → Prop) : Prop := V_X11_take N (fun E G1 => ∃ i, ES_take[i]? = some E ∧ PP_take v g k post (nI (i + 1)) G1 f) G (fun r G1 => PP_take v g k post 0 G1 (vp_updL f 0 r.toInt64))
/-- after the class answered t with out = f: the reference answers alike -/
def PP_give (v : Int32) (g : St) (k : StL) (post : SG → St → StL → (Nat → Int64) → Prop) (t : Int32) (G : SG) (f : Nat → Int64) : Prop := V_X12_give v g k (fun r g1 k1 => V_X12_thrown g1 k1 (fun t1 g2 k2 => t1 = t ∧ (t = 0 → f 0 = r.toInt64) ∧ post G g2 k2 f))
def LT_give (v : Int32) (N : Nat) (G : SG) (g : St) (k : StL) (f : Nat → Int64) (post : SG → St → StL → (Nat → Int64) → Prop) : Prop := V_X11_give N (fun E G1 => ∃ i, ES_give[i]? = some E ∧ PP_give v g k post (nI (i + 1)) G1 f) v G (fun r G1 => PP_give v g k post 0 G1 (vp_updL f 0 r.toInt64))
/-- after the class answered t with out = f: the reference answers alike -/
def PP_kind (v : Int32) (g : St) (k : StL) (post : SG → St → StL → (Nat → Int64) → Prop) (t : Int32) (G : SG) (f : Nat → Int64) : Prop := V_X12_kind v g k (fun r g1 k1 => V_X12_thrown g1 k1 (fun t1 g2 k2 => t1 = t ∧ (t = 0 → f 0 = r.toInt64) ∧ post G g2 k2 f))
def LT_kind (v : Int32) (N : Nat) (G : SG) (g : St) (k : StL) (f : Nat → Int64) (post : SG → St → StL → (Nat → Int64) → Prop) : Prop := V_X11_kind N (fun E G1 => ∃ i, ES_kind[i]? = some E ∧ PP_kind v g k post (nI (i + 1)) G1 f) v G (fun r G1 => PP_kind v g k post 0 G1 (vp_updL f 0 r.toInt64))
/-- after the class answered t with out = f: the reference answers alike -/
def PP_number (v : Int32) (g : St) (k : StL) (post : SG → St → StL → (Nat → Int64) → Prop) (t : Int32) (G : SG) (f : Nat → Int64) : Prop := V_X12_number v g k (fun r g1 k1 => V_X12_thrown g1 k1 (fun t1 g2 k2 => t1 = t ∧ (t = 0 → f 0 = r.toInt64) ∧ post G g2 k2 f))
def LT_number (v : Int32) (N : Nat) (G : SG) (g : St) (k : StL) (f : Nat → Int64) (post : SG → St → StL → (Nat → Int64) → Prop) : Prop := V_X11_number N (fun E G1 => ∃ i, ES_number[i]? = some E ∧ PP_number v g k post (nI (i + 1)) G1 f) v G (fun r G1 => PP_number v g k post 0 G1 (vp_updL f 0 r.toInt64))
/-- after the class answered t with out = f: the reference answers alike -/
def PP_count (v : Int32) (g : St) (k : StL) (post : SG → St → StL → (Nat → Int64) → Prop) (t : Int32) (G : SG) (f : Nat → Int64) : Prop := V_X12_count v g k (fun r g1 k1 => V_X12_thrown g1 k1 (fun t1 g2 k2 => t1 = t ∧ (t = 0 → f 0 = r.toInt64) ∧ post G g2 k2 f))
def LT_count (v : Int32) (N : Nat) (G : SG) (g : St) (k : StL) (f : Nat → Int64) (post : SG → St → StL → (Nat → Int64) → Prop) : Prop := V_X11_count N (fun E G1 => ∃ i, ES_count[i]? = some E ∧ PP_count v g k post (nI (i + 1)) G1 f) v G (fun r G1 => PP_count v g k post 0 G1 (vp_updL f 0 r.toInt64))
def LT_cancel (N : Nat) (G : SG) (g : St) (k : StL) (f : Nat → Int64) (post : SG → St → StL → (Nat → Int64) → Prop) : Prop := V_X11_cancel N G (fun r G1 => V_X12_cancel g k (fun r1 g1 k1 => r = r1 ∧ post G1 g1 k1 f))
def LT_collect (N : Nat) (G : SG) (g : St) (k : StL) (f : Nat → Int64) (post : SG → St → StL → (Nat → Int64) → Prop) : Prop := ∃ n, V_X11_collect N n G (fun r G1 => ∃ n2, V_X12_collect n2 g k (fun r1 g1 k1 => r = r1 ∧ post G1 g1 k1 f))
/-- one call of the script: what is asked for -/
def LStep (c v : Int32) (N : Nat) (G : SG) (g : St) (k : StL) (f : Nat → Int64) (post : SG → St → StL → (Nat → Int64) → Prop) : Prop :=
  (c = 0 → LT_type v N G g k f post) ∧ (c = 1 → LT_cancel N G g k f post) ∧ (c = 2 → LT_take v N G g k f post) ∧ (c = 3 → LT_give v N G g k f post) ∧ (c = 4 → LT_collect N G g k f post) ∧ (c = 5 → LT_kind v N G g k f post) ∧ (c = 6 → LT_number v N G g k f post) ∧ (c = 7 → LT_count v N G g k f post)
theorem lcmp_self (x : Int64) : lg_cmp x x = 0 := by
  unfold lg_cmp
  rw [if_neg (Int64.lt_irrefl), if_pos rfl]
section LAWM
variable {ea : Nat → Nat → Nat} {p : Program} {l : Launch} {e : Env} {s : State} {m : MethodId} {below : List Frame} {meth : Method} {c : Code} {H : Heap} {locs : List Loc} {cells slots : Nat} {D : va_G} {cI cC cZ cJ : ClassId} {b L : Nat} {xs : Nat → Int32} {ls : Array Slot}
abbrev AL (s : State) : Nat → Prop := fun q => s.heap.size ≤ q
abbrev CF (p : Program) (m : MethodId) (c : Code) (s : State) (b : Nat) : Prop := CallFix p m c cL_law 7 s #[Value.ref b] (Cond.initialized RL :: TB) RL
set_option maxHeartbeats 4000000 in
set_option maxRecDepth 100000 in
theorem law_type (hC : CF p m c s b) (hlt : l.stackTraces = false) (hX : va_X b L xs s s.heap) (hbl : b < s.heap.size) (hE : EnT ea (AL s) s s.heap) (hNC : NCs s) {ad bd : Nat → Nat} {o N : Nat} {G : SG} {g : St} {k : StL} {f : Nat → Int64} {x4 : Int32} (hw : Wd D (ty4 cI cC cZ cJ) (AL s) s (wLw ad bd o cI cC cZ cJ N G g k f) H locs) (hl : lv_has ls 7 [(0, .ref b), (1, .ref (ad 0)), (2, .ref (bd 0)), (3, .ref o), (4, .int x4)]) (hin : vp_in (x4 + 1) L) {post : SG → St → StL → (Nat → Int64) → Prop} (hc5 : cells + 1 ≤ 5000) (hs5 : slots + 6 ≤ 100000) (h : LT_type (xs (x4 + 1).toNatClampNeg) N G g k f post) (kk : ∀ (G1 : SG) (g1 : St) (k1 : StL) (f1 : Nat → Int64) (H1 : Heap) (locs1 : List Loc) (ls1 : Array Slot), post G1 g1 k1 f1 → Wd D (ty4 cI cC cZ cJ) (AL s) s (wLw ad bd o cI cC cZ cJ N G1 g1 k1 f1) H1 locs1 → lv_has ls1 7 [(0, .ref b), (1, .ref (ad 0)), (2, .ref (bd 0)), (3, .ref o), (4, .int x4)] → W p l e room_1 s m #[Value.ref b] below meth c H1 locs1 (cells + 1) (slots + 6) (lw_Z below #[Value.ref b] s) (F0 m 446 ls1 [])) : W p l e room_1 s m #[Value.ref b] below meth c H locs cells slots (lw_Z below #[Value.ref b] s) (F0 m 96 ls []) := by
  have hx := hC.1
  have hb := hC.2.1
  have hbA : ¬ AL s b := Nat.not_le.mpr hbl
  refine lv_aload_n hx hb dL_law_96 rfl (lv_at hl 1 rfl) ?_
  refine lv_aload_n hx hb dL_law_97 rfl (lv_at hl 0 rfl) ?_
  refine lv_iload hx hb dL_law_98 (lv_at hl 4 rfl) ?_
  refine lv_iconst (v := 1) hx hb dL_law_100 (by decide) ?_
  refine lv_iadd hx hb dL_law_101 ?_
  refine va_sld hx hb hX hbl hbA hw.2.2.2.1 hin dL_law_102 ?_
  refine lv_aload_n hx hb dL_law_103 rfl (lv_at hl 3 rfl) ?_
  unfold LT_type at h
  obtain ⟨n, h⟩ := h
  refine cSH (wf := fun u : SG × (Nat → Int64) => wO ad o cI cC cZ cJ N u.1 u.2) (wn := fun u : SG × (Nat → Int64) => wLw ad bd o cI cC cZ cJ N u.1 g k u.2) (wr := wM bd cI cC cZ cJ g k) khL_53 hC hw hE hNC (m_L_type ea l D cI cC cZ cJ ad o N n (xs (x4 + 1).toNatClampNeg) G f hlt h) [0, 1, 2, 3, 4, 5, 6, 7, 8, 9, 10, 11, 12, 13, 14, 15, 16, 17, 18, 19, 20, 21, 22, 23, 24, 25, 26, 27, 28, 58] [29, 30, 31, 32, 33, 34, 35, 36, 37, 38, 39, 40, 41, 42, 43, 44, 45, 46, 47, 48, 49, 50, 51, 52, 53, 54, 55, 56, 57] [29, 30, 31, 32, 33, 34, 35, 36, 37, 38, 39, 40, 41, 42, 43, 44, 45, 46, 47, 48, 49, 50, 51, 52, 53, 54, 55, 56, 57, 0, 1, 2, 3, 4, 5, 6, 7, 8, 9, 10, 11, 12, 13, 14, 15, 16, 17, 18, 19, 20, 21, 22, 23, 24, 25, 26, 27, 28, 58] rfl rfl rfl rfl (by decide) rfl (fun _ => rfl) rfl rfl ⟨Nat.le_of_ble_eq_true rfl, Nat.le_of_ble_eq_true rfl⟩ rfl hl.1 (Nat.le_of_ble_eq_true rfl) dL_law_104 ⟨Nat.le_trans (by omega : _ ≤ 5000) (Nat.le_of_ble_eq_true rfl), Nat.le_trans (by omega : _ ≤ 100000) (Nat.le_of_ble_eq_true rfl)⟩ rfl (fun t u H locs h hw => ?_)
  obtain ⟨G1, f1⟩ := u
  simp only [] at h hw
  unfold PP_type at h
  obtain ⟨n2, h⟩ := h
  refine lv_istore (lv' := [(5, .int t), (0, .ref b), (1, .ref (ad 0)), (2, .ref (bd 0)), (3, .ref o), (4, .int x4)]) hx hb dL_law_107 hl (by decide) rfl (fun ls hl => ?_)
  refine lv_aload_n hx hb dL_law_109 rfl (lv_at hl 3 rfl) ?_
  refine lv_aload_n hx hb dL_law_110 rfl (lv_at hl 1 rfl) ?_
  refine lv_iload hx hb dL_law_111 (lv_at hl 5 rfl) ?_
  refine lv_iconst (v := 1) hx hb dL_law_113 (by decide) ?_
  refine lv_iadd hx hb dL_law_114 ?_
  refine va_sld hx hb hX hbl hbA hw.2.2.2.1 hin dL_law_115 ?_
  refine cVI (wf := fun u : St × StL => wM bd cI cC cZ cJ u.1 u.2) (wn := fun u : St × StL => wLw ad bd o cI cC cZ cJ N G1 u.1 u.2 f1) (wr := wT ad cI cC cZ cJ N G1 ++ [(o, .inl (cJ, 1, .inr (.inl f1)))]) (q0 := 29) kmL_56 hC hw (m_X12_type l D cI cC cZ cJ bd n2 (xs (x4 + 1).toNatClampNeg) g k h) [29, 30, 31, 32, 33, 34, 35, 36, 37, 38, 39, 40, 41, 42, 43, 44, 45, 46, 47, 48, 49, 50, 51, 52, 53, 54, 55, 56, 57] [0, 1, 2, 3, 4, 5, 6, 7, 8, 9, 10, 11, 12, 13, 14, 15, 16, 17, 18, 19, 20, 21, 22, 23, 24, 25, 26, 27, 28, 58] [0, 1, 2, 3, 4, 5, 6, 7, 8, 9, 10, 11, 12, 13, 14, 15, 16, 17, 18, 19, 20, 21, 22, 23, 24, 25, 26, 27, 28, 30, 31, 32, 33, 34, 35, 36, 37, 38, 39, 40, 41, 42, 43, 44, 45, 46, 47, 48, 49, 50, 51, 52, 53, 54, 55, 56, 57, 58, 29] rfl rfl rfl rfl (by decide) rfl (fun _ => rfl) rfl rfl ⟨Nat.le_of_ble_eq_true rfl, Nat.le_of_ble_eq_true rfl⟩ rfl rfl rfl hl.1 (Nat.le_of_ble_eq_true rfl) dL_law_116 ⟨Nat.le_trans (by omega : _ ≤ 5000) (Nat.le_of_ble_eq_true rfl), Nat.le_trans (by omega : _ ≤ 100000) (Nat.le_of_ble_eq_true rfl)⟩ rfl ?_
  intro r u H locs h hw
  obtain ⟨g1, k1⟩ := u
  simp only [] at h hw
  refine lv_istore (lv' := [(6, .int r), (5, .int t), (0, .ref b), (1, .ref (ad 0)), (2, .ref (bd 0)), (3, .ref o), (4, .int x4)]) hx hb dL_law_119 hl (by decide) rfl (fun ls hl => ?_)
  refine lv_aload_n hx hb dL_law_121 rfl (lv_at hl 4 rfl) ?_
  refine cVI (wf := fun u : St × StL => wM bd cI cC cZ cJ u.1 u.2) (wn := fun u : St × StL => wLw ad bd o cI cC cZ cJ N G1 u.1 u.2 f1) (wr := wT ad cI cC cZ cJ N G1 ++ [(o, .inl (cJ, 1, .inr (.inl f1)))]) (q0 := 29) kmL_57 hC hw (m_X12_thrown l D cI cC cZ cJ bd g1 k1 h) [29, 30, 31, 32, 33, 34, 35, 36, 37, 38, 39, 40, 41, 42, 43, 44, 45, 46, 47, 48, 49, 50, 51, 52, 53, 54, 55, 56, 57] [0, 1, 2, 3, 4, 5, 6, 7, 8, 9, 10, 11, 12, 13, 14, 15, 16, 17, 18, 19, 20, 21, 22, 23, 24, 25, 26, 27, 28, 58] [0, 1, 2, 3, 4, 5, 6, 7, 8, 9, 10, 11, 12, 13, 14, 15, 16, 17, 18, 19, 20, 21, 22, 23, 24, 25, 26, 27, 28, 30, 31, 32, 33, 34, 35, 36, 37, 38, 39, 40, 41, 42, 43, 44, 45, 46, 47, 48, 49, 50, 51, 52, 53, 54, 55, 56, 57, 58, 29] rfl rfl rfl rfl (by decide) rfl (fun _ => rfl) rfl rfl ⟨Nat.le_of_ble_eq_true rfl, Nat.le_of_ble_eq_true rfl⟩ rfl rfl rfl hl.1 (Nat.le_of_ble_eq_true rfl) dL_law_122 ⟨Nat.le_trans (by omega : _ ≤ 5000) (Nat.le_of_ble_eq_true rfl), Nat.le_trans (by omega : _ ≤ 100000) (Nat.le_of_ble_eq_true rfl)⟩ rfl ?_
  intro t1 u H locs h hw
  obtain ⟨g2, k2⟩ := u
  simp only [] at h hw
  obtain ⟨h1, h2, h⟩ := h
  refine lv_iload hx hb dL_law_125 (lv_at hl 1 rfl) ?_
  refine lv_icmp_eq (tgt := 132) hx hb dL_law_127 (by decide) (fun _ => ?_) (fun hne => absurd h1 hne)
  refine lv_iload hx hb dL_law_132 (lv_at hl 1 rfl) ?_
  refine lv_if_ne (tgt := 149) hx hb dL_law_134 (by decide) (fun _ => ?_) (fun h0 => ?_)
  · refine lv_goto (tgt := 446) hx hb dL_law_149 (by decide) ?_
    exact kk G1 g2 k2 f1 H locs ls h hw (lv_sub hl [2, 3, 4, 5, 6] rfl)
  · refine lv_aload_n hx hb dL_law_137 rfl (lv_at hl 5 rfl) ?_
    refine lv_iconst (v := 0) hx hb dL_law_138 (by decide) ?_
    refine ldJ 58 3 hC hw rfl rfl vp01 dL_law_139 ?_
    refine lv_iload hx hb dL_law_140 (lv_at hl 0 rfl) ?_
    refine lv_i2l (v := r.toInt64) hx hb dL_law_142 rfl ?_
    refine W.lcmp hx hb dL_law_143 ?_
    refine lv_if_eq (tgt := 149) hx hb dL_law_144 (by decide) (fun _ => ?_) (fun hne => absurd ?_ hne)
    · refine lv_goto (tgt := 446) hx hb dL_law_149 (by decide) ?_
      exact kk G1 g2 k2 f1 H locs ls h hw (lv_sub hl [2, 3, 4, 5, 6] rfl)
    · rw [show f1 (0 : Int32).toNatClampNeg = r.toInt64 from h2 h0]
      exact lcmp_self _
set_option maxHeartbeats 4000000 in
set_option maxRecDepth 100000 in
theorem law_take (hC : CF p m c s b) (hlt : l.stackTraces = false) (hX : va_X b L xs s s.heap) (hbl : b < s.heap.size) (hE : EnT ea (AL s) s s.heap) (hNC : NCs s) {ad bd : Nat → Nat} {o N : Nat} {G : SG} {g : St} {k : StL} {f : Nat → Int64} {x4 : Int32} (hw : Wd D (ty4 cI cC cZ cJ) (AL s) s (wLw ad bd o cI cC cZ cJ N G g k f) H locs) (hl : lv_has ls 7 [(0, .ref b), (1, .ref (ad 0)), (2, .ref (bd 0)), (3, .ref o), (4, .int x4)]) (hin : vp_in (x4 + 1) L) {post : SG → St → StL → (Nat → Int64) → Prop} (hc5 : cells + 1 ≤ 5000) (hs5 : slots + 6 ≤ 100000) (h : LT_take (xs (x4 + 1).toNatClampNeg) N G g k f post) (kk : ∀ (G1 : SG) (g1 : St) (k1 : StL) (f1 : Nat → Int64) (H1 : Heap) (locs1 : List Loc) (ls1 : Array Slot), post G1 g1 k1 f1 → Wd D (ty4 cI cC cZ cJ) (AL s) s (wLw ad bd o cI cC cZ cJ N G1 g1 k1 f1) H1 locs1 → lv_has ls1 7 [(0, .ref b), (1, .ref (ad 0)), (2, .ref (bd 0)), (3, .ref o), (4, .int x4)] → W p l e room_1 s m #[Value.ref b] below meth c H1 locs1 (cells + 1) (slots + 6) (lw_Z below #[Value.ref b] s) (F0 m 446 ls1 [])) : W p l e room_1 s m #[Value.ref b] below meth c H locs cells slots (lw_Z below #[Value.ref b] s) (F0 m 165 ls []) := by
  have hx := hC.1
  have hb := hC.2.1
  have hbA : ¬ AL s b := Nat.not_le.mpr hbl
  refine lv_aload_n hx hb dL_law_165 rfl (lv_at hl 1 rfl) ?_
  refine lv_aload_n hx hb dL_law_166 rfl (lv_at hl 3 rfl) ?_
  unfold LT_take at h
  refine cSH (wf := fun u : SG × (Nat → Int64) => wO ad o cI cC cZ cJ N u.1 u.2) (wn := fun u : SG × (Nat → Int64) => wLw ad bd o cI cC cZ cJ N u.1 g k u.2) (wr := wM bd cI cC cZ cJ g k) khL_64 hC hw hE hNC (m_L_take ea l D cI cC cZ cJ ad o N G f hlt h) [0, 1, 2, 3, 4, 5, 6, 7, 8, 9, 10, 11, 12, 13, 14, 15, 16, 17, 18, 19, 20, 21, 22, 23, 24, 25, 26, 27, 28, 58] [29, 30, 31, 32, 33, 34, 35, 36, 37, 38, 39, 40, 41, 42, 43, 44, 45, 46, 47, 48, 49, 50, 51, 52, 53, 54, 55, 56, 57] [29, 30, 31, 32, 33, 34, 35, 36, 37, 38, 39, 40, 41, 42, 43, 44, 45, 46, 47, 48, 49, 50, 51, 52, 53, 54, 55, 56, 57, 0, 1, 2, 3, 4, 5, 6, 7, 8, 9, 10, 11, 12, 13, 14, 15, 16, 17, 18, 19, 20, 21, 22, 23, 24, 25, 26, 27, 28, 58] rfl rfl rfl rfl (by decide) rfl (fun _ => rfl) rfl rfl ⟨Nat.le_of_ble_eq_true rfl, Nat.le_of_ble_eq_true rfl⟩ rfl hl.1 (Nat.le_of_ble_eq_true rfl) dL_law_167 ⟨Nat.le_trans (by omega : _ ≤ 5000) (Nat.le_of_ble_eq_true rfl), Nat.le_trans (by omega : _ ≤ 100000) (Nat.le_of_ble_eq_true rfl)⟩ rfl (fun t u H locs h hw => ?_)
  obtain ⟨G1, f1⟩ := u
  simp only [] at h hw
  unfold PP_take at h
  obtain ⟨n2, h⟩ := h
  refine lv_istore (lv' := [(5, .int t), (0, .ref b), (1, .ref (ad 0)), (2, .ref (bd 0)), (3, .ref o), (4, .int x4)]) hx hb dL_law_170 hl (by decide) rfl (fun ls hl => ?_)
  refine lv_aload_n hx hb dL_law_172 rfl (lv_at hl 3 rfl) ?_
  refine cVI (wf := fun u : St × StL => wM bd cI cC cZ cJ u.1 u.2) (wn := fun u : St × StL => wLw ad bd o cI cC cZ cJ N G1 u.1 u.2 f1) (wr := wT ad cI cC cZ cJ N G1 ++ [(o, .inl (cJ, 1, .inr (.inl f1)))]) (q0 := 29) kmL_67 hC hw (m_X12_take l D cI cC cZ cJ bd n2 g k h) [29, 30, 31, 32, 33, 34, 35, 36, 37, 38, 39, 40, 41, 42, 43, 44, 45, 46, 47, 48, 49, 50, 51, 52, 53, 54, 55, 56, 57] [0, 1, 2, 3, 4, 5, 6, 7, 8, 9, 10, 11, 12, 13, 14, 15, 16, 17, 18, 19, 20, 21, 22, 23, 24, 25, 26, 27, 28, 58] [0, 1, 2, 3, 4, 5, 6, 7, 8, 9, 10, 11, 12, 13, 14, 15, 16, 17, 18, 19, 20, 21, 22, 23, 24, 25, 26, 27, 28, 30, 31, 32, 33, 34, 35, 36, 37, 38, 39, 40, 41, 42, 43, 44, 45, 46, 47, 48, 49, 50, 51, 52, 53, 54, 55, 56, 57, 58, 29] rfl rfl rfl rfl (by decide) rfl (fun _ => rfl) rfl rfl ⟨Nat.le_of_ble_eq_true rfl, Nat.le_of_ble_eq_true rfl⟩ rfl rfl rfl hl.1 (Nat.le_of_ble_eq_true rfl) dL_law_173 ⟨Nat.le_trans (by omega : _ ≤ 5000) (Nat.le_of_ble_eq_true rfl), Nat.le_trans (by omega : _ ≤ 100000) (Nat.le_of_ble_eq_true rfl)⟩ rfl ?_
  intro r u H locs h hw
  obtain ⟨g1, k1⟩ := u
  simp only [] at h hw
  refine lv_istore (lv' := [(6, .int r), (5, .int t), (0, .ref b), (1, .ref (ad 0)), (2, .ref (bd 0)), (3, .ref o), (4, .int x4)]) hx hb dL_law_176 hl (by decide) rfl (fun ls hl => ?_)
  refine lv_aload_n hx hb dL_law_178 rfl (lv_at hl 4 rfl) ?_
  refine cVI (wf := fun u : St × StL => wM bd cI cC cZ cJ u.1 u.2) (wn := fun u : St × StL => wLw ad bd o cI cC cZ cJ N G1 u.1 u.2 f1) (wr := wT ad cI cC cZ cJ N G1 ++ [(o, .inl (cJ, 1, .inr (.inl f1)))]) (q0 := 29) kmL_57 hC hw (m_X12_thrown l D cI cC cZ cJ bd g1 k1 h) [29, 30, 31, 32, 33, 34, 35, 36, 37, 38, 39, 40, 41, 42, 43, 44, 45, 46, 47, 48, 49, 50, 51, 52, 53, 54, 55, 56, 57] [0, 1, 2, 3, 4, 5, 6, 7, 8, 9, 10, 11, 12, 13, 14, 15, 16, 17, 18, 19, 20, 21, 22, 23, 24, 25, 26, 27, 28, 58] [0, 1, 2, 3, 4, 5, 6, 7, 8, 9, 10, 11, 12, 13, 14, 15, 16, 17, 18, 19, 20, 21, 22, 23, 24, 25, 26, 27, 28, 30, 31, 32, 33, 34, 35, 36, 37, 38, 39, 40, 41, 42, 43, 44, 45, 46, 47, 48, 49, 50, 51, 52, 53, 54, 55, 56, 57, 58, 29] rfl rfl rfl rfl (by decide) rfl (fun _ => rfl) rfl rfl ⟨Nat.le_of_ble_eq_true rfl, Nat.le_of_ble_eq_true rfl⟩ rfl rfl rfl hl.1 (Nat.le_of_ble_eq_true rfl) dL_law_179 ⟨Nat.le_trans (by omega : _ ≤ 5000) (Nat.le_of_ble_eq_true rfl), Nat.le_trans (by omega : _ ≤ 100000) (Nat.le_of_ble_eq_true rfl)⟩ rfl ?_
  intro t1 u H locs h hw
  obtain ⟨g2, k2⟩ := u
  simp only [] at h hw
  obtain ⟨h1, h2, h⟩ := h
  refine lv_iload hx hb dL_law_182 (lv_at hl 1 rfl) ?_
  refine lv_icmp_eq (tgt := 189) hx hb dL_law_184 (by decide) (fun _ => ?_) (fun hne => absurd h1 hne)
  refine lv_iload hx hb dL_law_189 (lv_at hl 1 rfl) ?_
  refine lv_if_ne (tgt := 206) hx hb dL_law_191 (by decide) (fun _ => ?_) (fun h0 => ?_)
  · refine lv_goto (tgt := 446) hx hb dL_law_206 (by decide) ?_
    exact kk G1 g2 k2 f1 H locs ls h hw (lv_sub hl [2, 3, 4, 5, 6] rfl)
  · refine lv_aload_n hx hb dL_law_194 rfl (lv_at hl 5 rfl) ?_
    refine lv_iconst (v := 0) hx hb dL_law_195 (by decide) ?_
    refine ldJ 58 3 hC hw rfl rfl vp01 dL_law_196 ?_
    refine lv_iload hx hb dL_law_197 (lv_at hl 0 rfl) ?_
    refine lv_i2l (v := r.toInt64) hx hb dL_law_199 rfl ?_
    refine W.lcmp hx hb dL_law_200 ?_
    refine lv_if_eq (tgt := 206) hx hb dL_law_201 (by decide) (fun _ => ?_) (fun hne => absurd ?_ hne)
    · refine lv_goto (tgt := 446) hx hb dL_law_206 (by decide) ?_
      exact kk G1 g2 k2 f1 H locs ls h hw (lv_sub hl [2, 3, 4, 5, 6] rfl)
    · rw [show f1 (0 : Int32).toNatClampNeg = r.toInt64 from h2 h0]
      exact lcmp_self _
set_option maxHeartbeats 4000000 in
set_option maxRecDepth 100000 in
theorem law_give (hC : CF p m c s b) (hlt : l.stackTraces = false) (hX : va_X b L xs s s.heap) (hbl : b < s.heap.size) (hE : EnT ea (AL s) s s.heap) (hNC : NCs s) {ad bd : Nat → Nat} {o N : Nat} {G : SG} {g : St} {k : StL} {f : Nat → Int64} {x4 : Int32} (hw : Wd D (ty4 cI cC cZ cJ) (AL s) s (wLw ad bd o cI cC cZ cJ N G g k f) H locs) (hl : lv_has ls 7 [(0, .ref b), (1, .ref (ad 0)), (2, .ref (bd 0)), (3, .ref o), (4, .int x4)]) (hin : vp_in (x4 + 1) L) {post : SG → St → StL → (Nat → Int64) → Prop} (hc5 : cells + 1 ≤ 5000) (hs5 : slots + 6 ≤ 100000) (h : LT_give (xs (x4 + 1).toNatClampNeg) N G g k f post) (kk : ∀ (G1 : SG) (g1 : St) (k1 : StL) (f1 : Nat → Int64) (H1 : Heap) (locs1 : List Loc) (ls1 : Array Slot), post G1 g1 k1 f1 → Wd D (ty4 cI cC cZ cJ) (AL s) s (wLw ad bd o cI cC cZ cJ N G1 g1 k1 f1) H1 locs1 → lv_has ls1 7 [(0, .ref b), (1, .ref (ad 0)), (2, .ref (bd 0)), (3, .ref o), (4, .int x4)] → W p l e room_1 s m #[Value.ref b] below meth c H1 locs1 (cells + 1) (slots + 6) (lw_Z below #[Value.ref b] s) (F0 m 446 ls1 [])) : W p l e room_1 s m #[Value.ref b] below meth c H locs cells slots (lw_Z below #[Value.ref b] s) (F0 m 209 ls []) := by
  have hx := hC.1
  have hb := hC.2.1
  have hbA : ¬ AL s b := Nat.not_le.mpr hbl
  refine lv_aload_n hx hb dL_law_209 rfl (lv_at hl 1 rfl) ?_
  refine lv_aload_n hx hb dL_law_210 rfl (lv_at hl 0 rfl) ?_
  refine lv_iload hx hb dL_law_211 (lv_at hl 4 rfl) ?_
  refine lv_iconst (v := 1) hx hb dL_law_213 (by decide) ?_
  refine lv_iadd hx hb dL_law_214 ?_
  refine va_sld hx hb hX hbl hbA hw.2.2.2.1 hin dL_law_215 ?_
  refine lv_aload_n hx hb dL_law_216 rfl (lv_at hl 3 rfl) ?_
  unfold LT_give at h
  refine cSH (wf := fun u : SG × (Nat → Int64) => wO ad o cI cC cZ cJ N u.1 u.2) (wn := fun u : SG × (Nat → Int64) => wLw ad bd o cI cC cZ cJ N u.1 g k u.2) (wr := wM bd cI cC cZ cJ g k) khL_68 hC hw hE hNC (m_L_give ea l D cI cC cZ cJ ad o N (xs (x4 + 1).toNatClampNeg) G f hlt h) [0, 1, 2, 3, 4, 5, 6, 7, 8, 9, 10, 11, 12, 13, 14, 15, 16, 17, 18, 19, 20, 21, 22, 23, 24, 25, 26, 27, 28, 58] [29, 30, 31, 32, 33, 34, 35, 36, 37, 38, 39, 40, 41, 42, 43, 44, 45, 46, 47, 48, 49, 50, 51, 52, 53, 54, 55, 56, 57] [29, 30, 31, 32, 33, 34, 35, 36, 37, 38, 39, 40, 41, 42, 43, 44, 45, 46, 47, 48, 49, 50, 51, 52, 53, 54, 55, 56, 57, 0, 1, 2, 3, 4, 5, 6, 7, 8, 9, 10, 11, 12, 13, 14, 15, 16, 17, 18, 19, 20, 21, 22, 23, 24, 25, 26, 27, 28, 58] rfl rfl rfl rfl (by decide) rfl (fun _ => rfl) rfl rfl ⟨Nat.le_of_ble_eq_true rfl, Nat.le_of_ble_eq_true rfl⟩ rfl hl.1 (Nat.le_of_ble_eq_true rfl) dL_law_217 ⟨Nat.le_trans (by omega : _ ≤ 5000) (Nat.le_of_ble_eq_true rfl), Nat.le_trans (by omega : _ ≤ 100000) (Nat.le_of_ble_eq_true rfl)⟩ rfl (fun t u H locs h hw => ?_)
  obtain ⟨G1, f1⟩ := u
  simp only [] at h hw
  unfold PP_give at h
  refine lv_istore (lv' := [(5, .int t), (0, .ref b), (1, .ref (ad 0)), (2, .ref (bd 0)), (3, .ref o), (4, .int x4)]) hx hb dL_law_220 hl (by decide) rfl (fun ls hl => ?_)
  refine lv_aload_n hx hb dL_law_222 rfl (lv_at hl 3 rfl) ?_
  refine lv_aload_n hx hb dL_law_223 rfl (lv_at hl 1 rfl) ?_
  refine lv_iload hx hb dL_law_224 (lv_at hl 5 rfl) ?_
  refine lv_iconst (v := 1) hx hb dL_law_226 (by decide) ?_
  refine lv_iadd hx hb dL_law_227 ?_
  refine va_sld hx hb hX hbl hbA hw.2.2.2.1 hin dL_law_228 ?_
  refine cVI (wf := fun u : St × StL => wM bd cI cC cZ cJ u.1 u.2) (wn := fun u : St × StL => wLw ad bd o cI cC cZ cJ N G1 u.1 u.2 f1) (wr := wT ad cI cC cZ cJ N G1 ++ [(o, .inl (cJ, 1, .inr (.inl f1)))]) (q0 := 29) kmL_70 hC hw (m_X12_give l D cI cC cZ cJ bd (xs (x4 + 1).toNatClampNeg) g k h) [29, 30, 31, 32, 33, 34, 35, 36, 37, 38, 39, 40, 41, 42, 43, 44, 45, 46, 47, 48, 49, 50, 51, 52, 53, 54, 55, 56, 57] [0, 1, 2, 3, 4, 5, 6, 7, 8, 9, 10, 11, 12, 13, 14, 15, 16, 17, 18, 19, 20, 21, 22, 23, 24, 25, 26, 27, 28, 58] [0, 1, 2, 3, 4, 5, 6, 7, 8, 9, 10, 11, 12, 13, 14, 15, 16, 17, 18, 19, 20, 21, 22, 23, 24, 25, 26, 27, 28, 30, 31, 32, 33, 34, 35, 36, 37, 38, 39, 40, 41, 42, 43, 44, 45, 46, 47, 48, 49, 50, 51, 52, 53, 54, 55, 56, 57, 58, 29] rfl rfl rfl rfl (by decide) rfl (fun _ => rfl) rfl rfl ⟨Nat.le_of_ble_eq_true rfl, Nat.le_of_ble_eq_true rfl⟩ rfl rfl rfl hl.1 (Nat.le_of_ble_eq_true rfl) dL_law_229 ⟨Nat.le_trans (by omega : _ ≤ 5000) (Nat.le_of_ble_eq_true rfl), Nat.le_trans (by omega : _ ≤ 100000) (Nat.le_of_ble_eq_true rfl)⟩ rfl ?_
  intro r u H locs h hw
  obtain ⟨g1, k1⟩ := u
  simp only [] at h hw
  refine lv_istore (lv' := [(6, .int r), (5, .int t), (0, .ref b), (1, .ref (ad 0)), (2, .ref (bd 0)), (3, .ref o), (4, .int x4)]) hx hb dL_law_232 hl (by decide) rfl (fun ls hl => ?_)
  refine lv_aload_n hx hb dL_law_234 rfl (lv_at hl 4 rfl) ?_
  refine cVI (wf := fun u : St × StL => wM bd cI cC cZ cJ u.1 u.2) (wn := fun u : St × StL => wLw ad bd o cI cC cZ cJ N G1 u.1 u.2 f1) (wr := wT ad cI cC cZ cJ N G1 ++ [(o, .inl (cJ, 1, .inr (.inl f1)))]) (q0 := 29) kmL_57 hC hw (m_X12_thrown l D cI cC cZ cJ bd g1 k1 h) [29, 30, 31, 32, 33, 34, 35, 36, 37, 38, 39, 40, 41, 42, 43, 44, 45, 46, 47, 48, 49, 50, 51, 52, 53, 54, 55, 56, 57] [0, 1, 2, 3, 4, 5, 6, 7, 8, 9, 10, 11, 12, 13, 14, 15, 16, 17, 18, 19, 20, 21, 22, 23, 24, 25, 26, 27, 28, 58] [0, 1, 2, 3, 4, 5, 6, 7, 8, 9, 10, 11, 12, 13, 14, 15, 16, 17, 18, 19, 20, 21, 22, 23, 24, 25, 26, 27, 28, 30, 31, 32, 33, 34, 35, 36, 37, 38, 39, 40, 41, 42, 43, 44, 45, 46, 47, 48, 49, 50, 51, 52, 53, 54, 55, 56, 57, 58, 29] rfl rfl rfl rfl (by decide) rfl (fun _ => rfl) rfl rfl ⟨Nat.le_of_ble_eq_true rfl, Nat.le_of_ble_eq_true rfl⟩ rfl rfl rfl hl.1 (Nat.le_of_ble_eq_true rfl) dL_law_235 ⟨Nat.le_trans (by omega : _ ≤ 5000) (Nat.le_of_ble_eq_true rfl), Nat.le_trans (by omega : _ ≤ 100000) (Nat.le_of_ble_eq_true rfl)⟩ rfl ?_
  intro t1 u H locs h hw
  obtain ⟨g2, k2⟩ := u
  simp only [] at h hw
  obtain ⟨h1, h2, h⟩ := h
  refine lv_iload hx hb dL_law_238 (lv_at hl 1 rfl) ?_
  refine lv_icmp_eq (tgt := 245) hx hb dL_law_240 (by decide) (fun _ => ?_) (fun hne => absurd h1 hne)
  refine lv_iload hx hb dL_law_245 (lv_at hl 1 rfl) ?_
  refine lv_if_ne (tgt := 262) hx hb dL_law_247 (by decide) (fun _ => ?_) (fun h0 => ?_)
  · refine lv_goto (tgt := 446) hx hb dL_law_262 (by decide) ?_
    exact kk G1 g2 k2 f1 H locs ls h hw (lv_sub hl [2, 3, 4, 5, 6] rfl)
  · refine lv_aload_n hx hb dL_law_250 rfl (lv_at hl 5 rfl) ?_
    refine lv_iconst (v := 0) hx hb dL_law_251 (by decide) ?_
    refine ldJ 58 3 hC hw rfl rfl vp01 dL_law_252 ?_
    refine lv_iload hx hb dL_law_253 (lv_at hl 0 rfl) ?_
    refine lv_i2l (v := r.toInt64) hx hb dL_law_255 rfl ?_
    refine W.lcmp hx hb dL_law_256 ?_
    refine lv_if_eq (tgt := 262) hx hb dL_law_257 (by decide) (fun _ => ?_) (fun hne => absurd ?_ hne)
    · refine lv_goto (tgt := 446) hx hb dL_law_262 (by decide) ?_
      exact kk G1 g2 k2 f1 H locs ls h hw (lv_sub hl [2, 3, 4, 5, 6] rfl)
    · rw [show f1 (0 : Int32).toNatClampNeg = r.toInt64 from h2 h0]
      exact lcmp_self _
set_option maxHeartbeats 4000000 in
set_option maxRecDepth 100000 in
theorem law_kind (hC : CF p m c s b) (hlt : l.stackTraces = false) (hX : va_X b L xs s s.heap) (hbl : b < s.heap.size) (hE : EnT ea (AL s) s s.heap) (hNC : NCs s) {ad bd : Nat → Nat} {o N : Nat} {G : SG} {g : St} {k : StL} {f : Nat → Int64} {x4 : Int32} (hw : Wd D (ty4 cI cC cZ cJ) (AL s) s (wLw ad bd o cI cC cZ cJ N G g k f) H locs) (hl : lv_has ls 7 [(0, .ref b), (1, .ref (ad 0)), (2, .ref (bd 0)), (3, .ref o), (4, .int x4)]) (hin : vp_in (x4 + 1) L) {post : SG → St → StL → (Nat → Int64) → Prop} (hc5 : cells + 1 ≤ 5000) (hs5 : slots + 6 ≤ 100000) (h : LT_kind (xs (x4 + 1).toNatClampNeg) N G g k f post) (kk : ∀ (G1 : SG) (g1 : St) (k1 : StL) (f1 : Nat → Int64) (H1 : Heap) (locs1 : List Loc) (ls1 : Array Slot), post G1 g1 k1 f1 → Wd D (ty4 cI cC cZ cJ) (AL s) s (wLw ad bd o cI cC cZ cJ N G1 g1 k1 f1) H1 locs1 → lv_has ls1 7 [(0, .ref b), (1, .ref (ad 0)), (2, .ref (bd 0)), (3, .ref o), (4, .int x4)] → W p l e room_1 s m #[Value.ref b] below meth c H1 locs1 (cells + 1) (slots + 6) (lw_Z below #[Value.ref b] s) (F0 m 446 ls1 [])) : W p l e room_1 s m #[Value.ref b] below meth c H locs cells slots (lw_Z below #[Value.ref b] s) (F0 m 278 ls []) := by
  have hx := hC.1
  have hb := hC.2.1
  have hbA : ¬ AL s b := Nat.not_le.mpr hbl
  refine lv_aload_n hx hb dL_law_278 rfl (lv_at hl 1 rfl) ?_
  refine lv_aload_n hx hb dL_law_279 rfl (lv_at hl 0 rfl) ?_
  refine lv_iload hx hb dL_law_280 (lv_at hl 4 rfl) ?_
  refine lv_iconst (v := 1) hx hb dL_law_282 (by decide) ?_
  refine lv_iadd hx hb dL_law_283 ?_
  refine va_sld hx hb hX hbl hbA hw.2.2.2.1 hin dL_law_284 ?_
  refine lv_aload_n hx hb dL_law_285 rfl (lv_at hl 3 rfl) ?_
  unfold LT_kind at h
  refine cSH (wf := fun u : SG × (Nat → Int64) => wO ad o cI cC cZ cJ N u.1 u.2) (wn := fun u : SG × (Nat → Int64) => wLw ad bd o cI cC cZ cJ N u.1 g k u.2) (wr := wM bd cI cC cZ cJ g k) khL_75 hC hw hE hNC (m_L_kind ea l D cI cC cZ cJ ad o N (xs (x4 + 1).toNatClampNeg) G f hlt h) [0, 1, 2, 3, 4, 5, 6, 7, 8, 9, 10, 11, 12, 13, 14, 15, 16, 17, 18, 19, 20, 21, 22, 23, 24, 25, 26, 27, 28, 58] [29, 30, 31, 32, 33, 34, 35, 36, 37, 38, 39, 40, 41, 42, 43, 44, 45, 46, 47, 48, 49, 50, 51, 52, 53, 54, 55, 56, 57] [29, 30, 31, 32, 33, 34, 35, 36, 37, 38, 39, 40, 41, 42, 43, 44, 45, 46, 47, 48, 49, 50, 51, 52, 53, 54, 55, 56, 57, 0, 1, 2, 3, 4, 5, 6, 7, 8, 9, 10, 11, 12, 13, 14, 15, 16, 17, 18, 19, 20, 21, 22, 23, 24, 25, 26, 27, 28, 58] rfl rfl rfl rfl (by decide) rfl (fun _ => rfl) rfl rfl ⟨Nat.le_of_ble_eq_true rfl, Nat.le_of_ble_eq_true rfl⟩ rfl hl.1 (Nat.le_of_ble_eq_true rfl) dL_law_286 ⟨Nat.le_trans (by omega : _ ≤ 5000) (Nat.le_of_ble_eq_true rfl), Nat.le_trans (by omega : _ ≤ 100000) (Nat.le_of_ble_eq_true rfl)⟩ rfl (fun t u H locs h hw => ?_)
  obtain ⟨G1, f1⟩ := u
  simp only [] at h hw
  unfold PP_kind at h
  refine lv_istore (lv' := [(5, .int t), (0, .ref b), (1, .ref (ad 0)), (2, .ref (bd 0)), (3, .ref o), (4, .int x4)]) hx hb dL_law_289 hl (by decide) rfl (fun ls hl => ?_)
  refine lv_aload_n hx hb dL_law_291 rfl (lv_at hl 3 rfl) ?_
  refine lv_aload_n hx hb dL_law_292 rfl (lv_at hl 1 rfl) ?_
  refine lv_iload hx hb dL_law_293 (lv_at hl 5 rfl) ?_
  refine lv_iconst (v := 1) hx hb dL_law_295 (by decide) ?_
  refine lv_iadd hx hb dL_law_296 ?_
  refine va_sld hx hb hX hbl hbA hw.2.2.2.1 hin dL_law_297 ?_
  refine cVI (wf := fun u : St × StL => wM bd cI cC cZ cJ u.1 u.2) (wn := fun u : St × StL => wLw ad bd o cI cC cZ cJ N G1 u.1 u.2 f1) (wr := wT ad cI cC cZ cJ N G1 ++ [(o, .inl (cJ, 1, .inr (.inl f1)))]) (q0 := 29) kmL_77 hC hw (m_X12_kind l D cI cC cZ cJ bd (xs (x4 + 1).toNatClampNeg) g k h) [29, 30, 31, 32, 33, 34, 35, 36, 37, 38, 39, 40, 41, 42, 43, 44, 45, 46, 47, 48, 49, 50, 51, 52, 53, 54, 55, 56, 57] [0, 1, 2, 3, 4, 5, 6, 7, 8, 9, 10, 11, 12, 13, 14, 15, 16, 17, 18, 19, 20, 21, 22, 23, 24, 25, 26, 27, 28, 58] [0, 1, 2, 3, 4, 5, 6, 7, 8, 9, 10, 11, 12, 13, 14, 15, 16, 17, 18, 19, 20, 21, 22, 23, 24, 25, 26, 27, 28, 30, 31, 32, 33, 34, 35, 36, 37, 38, 39, 40, 41, 42, 43, 44, 45, 46, 47, 48, 49, 50, 51, 52, 53, 54, 55, 56, 57, 58, 29] rfl rfl rfl rfl (by decide) rfl (fun _ => rfl) rfl rfl ⟨Nat.le_of_ble_eq_true rfl, Nat.le_of_ble_eq_true rfl⟩ rfl rfl rfl hl.1 (Nat.le_of_ble_eq_true rfl) dL_law_298 ⟨Nat.le_trans (by omega : _ ≤ 5000) (Nat.le_of_ble_eq_true rfl), Nat.le_trans (by omega : _ ≤ 100000) (Nat.le_of_ble_eq_true rfl)⟩ rfl ?_
  intro r u H locs h hw
  obtain ⟨g1, k1⟩ := u
  simp only [] at h hw
  refine lv_istore (lv' := [(6, .int r), (5, .int t), (0, .ref b), (1, .ref (ad 0)), (2, .ref (bd 0)), (3, .ref o), (4, .int x4)]) hx hb dL_law_301 hl (by decide) rfl (fun ls hl => ?_)
  refine lv_aload_n hx hb dL_law_303 rfl (lv_at hl 4 rfl) ?_
  refine cVI (wf := fun u : St × StL => wM bd cI cC cZ cJ u.1 u.2) (wn := fun u : St × StL => wLw ad bd o cI cC cZ cJ N G1 u.1 u.2 f1) (wr := wT ad cI cC cZ cJ N G1 ++ [(o, .inl (cJ, 1, .inr (.inl f1)))]) (q0 := 29) kmL_57 hC hw (m_X12_thrown l D cI cC cZ cJ bd g1 k1 h) [29, 30, 31, 32, 33, 34, 35, 36, 37, 38, 39, 40, 41, 42, 43, 44, 45, 46, 47, 48, 49, 50, 51, 52, 53, 54, 55, 56, 57] [0, 1, 2, 3, 4, 5, 6, 7, 8, 9, 10, 11, 12, 13, 14, 15, 16, 17, 18, 19, 20, 21, 22, 23, 24, 25, 26, 27, 28, 58] [0, 1, 2, 3, 4, 5, 6, 7, 8, 9, 10, 11, 12, 13, 14, 15, 16, 17, 18, 19, 20, 21, 22, 23, 24, 25, 26, 27, 28, 30, 31, 32, 33, 34, 35, 36, 37, 38, 39, 40, 41, 42, 43, 44, 45, 46, 47, 48, 49, 50, 51, 52, 53, 54, 55, 56, 57, 58, 29] rfl rfl rfl rfl (by decide) rfl (fun _ => rfl) rfl rfl ⟨Nat.le_of_ble_eq_true rfl, Nat.le_of_ble_eq_true rfl⟩ rfl rfl rfl hl.1 (Nat.le_of_ble_eq_true rfl) dL_law_304 ⟨Nat.le_trans (by omega : _ ≤ 5000) (Nat.le_of_ble_eq_true rfl), Nat.le_trans (by omega : _ ≤ 100000) (Nat.le_of_ble_eq_true rfl)⟩ rfl ?_
  intro t1 u H locs h hw
  obtain ⟨g2, k2⟩ := u
  simp only [] at h hw
  obtain ⟨h1, h2, h⟩ := h
  refine lv_iload hx hb dL_law_307 (lv_at hl 1 rfl) ?_
  refine lv_icmp_eq (tgt := 314) hx hb dL_law_309 (by decide) (fun _ => ?_) (fun hne => absurd h1 hne)
  refine lv_iload hx hb dL_law_314 (lv_at hl 1 rfl) ?_
  refine lv_if_ne (tgt := 331) hx hb dL_law_316 (by decide) (fun _ => ?_) (fun h0 => ?_)
  · refine lv_goto (tgt := 446) hx hb dL_law_331 (by decide) ?_
    exact kk G1 g2 k2 f1 H locs ls h hw (lv_sub hl [2, 3, 4, 5, 6] rfl)
  · refine lv_aload_n hx hb dL_law_319 rfl (lv_at hl 5 rfl) ?_
    refine lv_iconst (v := 0) hx hb dL_law_320 (by decide) ?_
    refine ldJ 58 3 hC hw rfl rfl vp01 dL_law_321 ?_
    refine lv_iload hx hb dL_law_322 (lv_at hl 0 rfl) ?_
    refine lv_i2l (v := r.toInt64) hx hb dL_law_324 rfl ?_
    refine W.lcmp hx hb dL_law_325 ?_
    refine lv_if_eq (tgt := 331) hx hb dL_law_326 (by decide) (fun _ => ?_) (fun hne => absurd ?_ hne)
    · refine lv_goto (tgt := 446) hx hb dL_law_331 (by decide) ?_
      exact kk G1 g2 k2 f1 H locs ls h hw (lv_sub hl [2, 3, 4, 5, 6] rfl)
    · rw [show f1 (0 : Int32).toNatClampNeg = r.toInt64 from h2 h0]
      exact lcmp_self _
set_option maxHeartbeats 4000000 in
set_option maxRecDepth 100000 in
theorem law_number (hC : CF p m c s b) (hlt : l.stackTraces = false) (hX : va_X b L xs s s.heap) (hbl : b < s.heap.size) (hE : EnT ea (AL s) s s.heap) (hNC : NCs s) {ad bd : Nat → Nat} {o N : Nat} {G : SG} {g : St} {k : StL} {f : Nat → Int64} {x4 : Int32} (hw : Wd D (ty4 cI cC cZ cJ) (AL s) s (wLw ad bd o cI cC cZ cJ N G g k f) H locs) (hl : lv_has ls 7 [(0, .ref b), (1, .ref (ad 0)), (2, .ref (bd 0)), (3, .ref o), (4, .int x4)]) (hin : vp_in (x4 + 1) L) {post : SG → St → StL → (Nat → Int64) → Prop} (hc5 : cells + 1 ≤ 5000) (hs5 : slots + 6 ≤ 100000) (h : LT_number (xs (x4 + 1).toNatClampNeg) N G g k f post) (kk : ∀ (G1 : SG) (g1 : St) (k1 : StL) (f1 : Nat → Int64) (H1 : Heap) (locs1 : List Loc) (ls1 : Array Slot), post G1 g1 k1 f1 → Wd D (ty4 cI cC cZ cJ) (AL s) s (wLw ad bd o cI cC cZ cJ N G1 g1 k1 f1) H1 locs1 → lv_has ls1 7 [(0, .ref b), (1, .ref (ad 0)), (2, .ref (bd 0)), (3, .ref o), (4, .int x4)] → W p l e room_1 s m #[Value.ref b] below meth c H1 locs1 (cells + 1) (slots + 6) (lw_Z below #[Value.ref b] s) (F0 m 446 ls1 [])) : W p l e room_1 s m #[Value.ref b] below meth c H locs cells slots (lw_Z below #[Value.ref b] s) (F0 m 334 ls []) := by
  have hx := hC.1
  have hb := hC.2.1
  have hbA : ¬ AL s b := Nat.not_le.mpr hbl
  refine lv_aload_n hx hb dL_law_334 rfl (lv_at hl 1 rfl) ?_
  refine lv_aload_n hx hb dL_law_335 rfl (lv_at hl 0 rfl) ?_
  refine lv_iload hx hb dL_law_336 (lv_at hl 4 rfl) ?_
  refine lv_iconst (v := 1) hx hb dL_law_338 (by decide) ?_
  refine lv_iadd hx hb dL_law_339 ?_
  refine va_sld hx hb hX hbl hbA hw.2.2.2.1 hin dL_law_340 ?_
  refine lv_aload_n hx hb dL_law_341 rfl (lv_at hl 3 rfl) ?_
  unfold LT_number at h
  refine cSH (wf := fun u : SG × (Nat → Int64) => wO ad o cI cC cZ cJ N u.1 u.2) (wn := fun u : SG × (Nat → Int64) => wLw ad bd o cI cC cZ cJ N u.1 g k u.2) (wr := wM bd cI cC cZ cJ g k) khL_78 hC hw hE hNC (m_L_number ea l D cI cC cZ cJ ad o N (xs (x4 + 1).toNatClampNeg) G f hlt h) [0, 1, 2, 3, 4, 5, 6, 7, 8, 9, 10, 11, 12, 13, 14, 15, 16, 17, 18, 19, 20, 21, 22, 23, 24, 25, 26, 27, 28, 58] [29, 30, 31, 32, 33, 34, 35, 36, 37, 38, 39, 40, 41, 42, 43, 44, 45, 46, 47, 48, 49, 50, 51, 52, 53, 54, 55, 56, 57] [29, 30, 31, 32, 33, 34, 35, 36, 37, 38, 39, 40, 41, 42, 43, 44, 45, 46, 47, 48, 49, 50, 51, 52, 53, 54, 55, 56, 57, 0, 1, 2, 3, 4, 5, 6, 7, 8, 9, 10, 11, 12, 13, 14, 15, 16, 17, 18, 19, 20, 21, 22, 23, 24, 25, 26, 27, 28, 58] rfl rfl rfl rfl (by decide) rfl (fun _ => rfl) rfl rfl ⟨Nat.le_of_ble_eq_true rfl, Nat.le_of_ble_eq_true rfl⟩ rfl hl.1 (Nat.le_of_ble_eq_true rfl) dL_law_342 ⟨Nat.le_trans (by omega : _ ≤ 5000) (Nat.le_of_ble_eq_true rfl), Nat.le_trans (by omega : _ ≤ 100000) (Nat.le_of_ble_eq_true rfl)⟩ rfl (fun t u H locs h hw => ?_)
  obtain ⟨G1, f1⟩ := u
  simp only [] at h hw
  unfold PP_number at h
  refine lv_istore (lv' := [(5, .int t), (0, .ref b), (1, .ref (ad 0)), (2, .ref (bd 0)), (3, .ref o), (4, .int x4)]) hx hb dL_law_345 hl (by decide) rfl (fun ls hl => ?_)
  refine lv_aload_n hx hb dL_law_347 rfl (lv_at hl 3 rfl) ?_
  refine lv_aload_n hx hb dL_law_348 rfl (lv_at hl 1 rfl) ?_
  refine lv_iload hx hb dL_law_349 (lv_at hl 5 rfl) ?_
  refine lv_iconst (v := 1) hx hb dL_law_351 (by decide) ?_
  refine lv_iadd hx hb dL_law_352 ?_
  refine va_sld hx hb hX hbl hbA hw.2.2.2.1 hin dL_law_353 ?_
  refine cVI (wf := fun u : St × StL => wM bd cI cC cZ cJ u.1 u.2) (wn := fun u : St × StL => wLw ad bd o cI cC cZ cJ N G1 u.1 u.2 f1) (wr := wT ad cI cC cZ cJ N G1 ++ [(o, .inl (cJ, 1, .inr (.inl f1)))]) (q0 := 29) kmL_80 hC hw (m_X12_number l D cI cC cZ cJ bd (xs (x4 + 1).toNatClampNeg) g k h) [29, 30, 31, 32, 33, 34, 35, 36, 37, 38, 39, 40, 41, 42, 43, 44, 45, 46, 47, 48, 49, 50, 51, 52, 53, 54, 55, 56, 57] [0, 1, 2, 3, 4, 5, 6, 7, 8, 9, 10, 11, 12, 13, 14, 15, 16, 17, 18, 19, 20, 21, 22, 23, 24, 25, 26, 27, 28, 58] [0, 1, 2, 3, 4, 5, 6, 7, 8, 9, 10, 11, 12, 13, 14, 15, 16, 17, 18, 19, 20, 21, 22, 23, 24, 25, 26, 27, 28, 30, 31, 32, 33, 34, 35, 36, 37, 38, 39, 40, 41, 42, 43, 44, 45, 46, 47, 48, 49, 50, 51, 52, 53, 54, 55, 56, 57, 58, 29] rfl rfl rfl rfl (by decide) rfl (fun _ => rfl) rfl rfl ⟨Nat.le_of_ble_eq_true rfl, Nat.le_of_ble_eq_true rfl⟩ rfl rfl rfl hl.1 (Nat.le_of_ble_eq_true rfl) dL_law_354 ⟨Nat.le_trans (by omega : _ ≤ 5000) (Nat.le_of_ble_eq_true rfl), Nat.le_trans (by omega : _ ≤ 100000) (Nat.le_of_ble_eq_true rfl)⟩ rfl ?_
  intro r u H locs h hw
  obtain ⟨g1, k1⟩ := u
  simp only [] at h hw
  refine lv_istore (lv' := [(6, .int r), (5, .int t), (0, .ref b), (1, .ref (ad 0)), (2, .ref (bd 0)), (3, .ref o), (4, .int x4)]) hx hb dL_law_357 hl (by decide) rfl (fun ls hl => ?_)
  refine lv_aload_n hx hb dL_law_359 rfl (lv_at hl 4 rfl) ?_
  refine cVI (wf := fun u : St × StL => wM bd cI cC cZ cJ u.1 u.2) (wn := fun u : St × StL => wLw ad bd o cI cC cZ cJ N G1 u.1 u.2 f1) (wr := wT ad cI cC cZ cJ N G1 ++ [(o, .inl (cJ, 1, .inr (.inl f1)))]) (q0 := 29) kmL_57 hC hw (m_X12_thrown l D cI cC cZ cJ bd g1 k1 h) [29, 30, 31, 32, 33, 34, 35, 36, 37, 38, 39, 40, 41, 42, 43, 44, 45, 46, 47, 48, 49, 50, 51, 52, 53, 54, 55, 56, 57] [0, 1, 2, 3, 4, 5, 6, 7, 8, 9, 10, 11, 12, 13, 14, 15, 16, 17, 18, 19, 20, 21, 22, 23, 24, 25, 26, 27, 28, 58] [0, 1, 2, 3, 4, 5, 6, 7, 8, 9, 10, 11, 12, 13, 14, 15, 16, 17, 18, 19, 20, 21, 22, 23, 24, 25, 26, 27, 28, 30, 31, 32, 33, 34, 35, 36, 37, 38, 39, 40, 41, 42, 43, 44, 45, 46, 47, 48, 49, 50, 51, 52, 53, 54, 55, 56, 57, 58, 29] rfl rfl rfl rfl (by decide) rfl (fun _ => rfl) rfl rfl ⟨Nat.le_of_ble_eq_true rfl, Nat.le_of_ble_eq_true rfl⟩ rfl rfl rfl hl.1 (Nat.le_of_ble_eq_true rfl) dL_law_360 ⟨Nat.le_trans (by omega : _ ≤ 5000) (Nat.le_of_ble_eq_true rfl), Nat.le_trans (by omega : _ ≤ 100000) (Nat.le_of_ble_eq_true rfl)⟩ rfl ?_
  intro t1 u H locs h hw
  obtain ⟨g2, k2⟩ := u
  simp only [] at h hw
  obtain ⟨h1, h2, h⟩ := h
  refine lv_iload hx hb dL_law_363 (lv_at hl 1 rfl) ?_
  refine lv_icmp_eq (tgt := 370) hx hb dL_law_365 (by decide) (fun _ => ?_) (fun hne => absurd h1 hne)
  refine lv_iload hx hb dL_law_370 (lv_at hl 1 rfl) ?_
  refine lv_if_ne (tgt := 387) hx hb dL_law_372 (by decide) (fun _ => ?_) (fun h0 => ?_)
  · refine lv_goto (tgt := 446) hx hb dL_law_387 (by decide) ?_
    exact kk G1 g2 k2 f1 H locs ls h hw (lv_sub hl [2, 3, 4, 5, 6] rfl)
  · refine lv_aload_n hx hb dL_law_375 rfl (lv_at hl 5 rfl) ?_
    refine lv_iconst (v := 0) hx hb dL_law_376 (by decide) ?_
    refine ldJ 58 3 hC hw rfl rfl vp01 dL_law_377 ?_
    refine lv_iload hx hb dL_law_378 (lv_at hl 0 rfl) ?_
    refine lv_i2l (v := r.toInt64) hx hb dL_law_380 rfl ?_
    refine W.lcmp hx hb dL_law_381 ?_
    refine lv_if_eq (tgt := 387) hx hb dL_law_382 (by decide) (fun _ => ?_) (fun hne => absurd ?_ hne)
    · refine lv_goto (tgt := 446) hx hb dL_law_387 (by decide) ?_
      exact kk G1 g2 k2 f1 H locs ls h hw (lv_sub hl [2, 3, 4, 5, 6] rfl)
    · rw [show f1 (0 : Int32).toNatClampNeg = r.toInt64 from h2 h0]
      exact lcmp_self _
set_option maxHeartbeats 4000000 in
set_option maxRecDepth 100000 in
theorem law_count (hC : CF p m c s b) (hlt : l.stackTraces = false) (hX : va_X b L xs s s.heap) (hbl : b < s.heap.size) (hE : EnT ea (AL s) s s.heap) (hNC : NCs s) {ad bd : Nat → Nat} {o N : Nat} {G : SG} {g : St} {k : StL} {f : Nat → Int64} {x4 : Int32} (hw : Wd D (ty4 cI cC cZ cJ) (AL s) s (wLw ad bd o cI cC cZ cJ N G g k f) H locs) (hl : lv_has ls 7 [(0, .ref b), (1, .ref (ad 0)), (2, .ref (bd 0)), (3, .ref o), (4, .int x4)]) (hin : vp_in (x4 + 1) L) {post : SG → St → StL → (Nat → Int64) → Prop} (hc5 : cells + 1 ≤ 5000) (hs5 : slots + 6 ≤ 100000) (h : LT_count (xs (x4 + 1).toNatClampNeg) N G g k f post) (kk : ∀ (G1 : SG) (g1 : St) (k1 : StL) (f1 : Nat → Int64) (H1 : Heap) (locs1 : List Loc) (ls1 : Array Slot), post G1 g1 k1 f1 → Wd D (ty4 cI cC cZ cJ) (AL s) s (wLw ad bd o cI cC cZ cJ N G1 g1 k1 f1) H1 locs1 → lv_has ls1 7 [(0, .ref b), (1, .ref (ad 0)), (2, .ref (bd 0)), (3, .ref o), (4, .int x4)] → W p l e room_1 s m #[Value.ref b] below meth c H1 locs1 (cells + 1) (slots + 6) (lw_Z below #[Value.ref b] s) (F0 m 446 ls1 [])) : W p l e room_1 s m #[Value.ref b] below meth c H locs cells slots (lw_Z below #[Value.ref b] s) (F0 m 390 ls []) := by
  have hx := hC.1
  have hb := hC.2.1
  have hbA : ¬ AL s b := Nat.not_le.mpr hbl
  refine lv_aload_n hx hb dL_law_390 rfl (lv_at hl 1 rfl) ?_
  refine lv_aload_n hx hb dL_law_391 rfl (lv_at hl 0 rfl) ?_
  refine lv_iload hx hb dL_law_392 (lv_at hl 4 rfl) ?_
  refine lv_iconst (v := 1) hx hb dL_law_394 (by decide) ?_
  refine lv_iadd hx hb dL_law_395 ?_
  refine va_sld hx hb hX hbl hbA hw.2.2.2.1 hin dL_law_396 ?_
  refine lv_aload_n hx hb dL_law_397 rfl (lv_at hl 3 rfl) ?_
  unfold LT_count at h
  refine cSH (wf := fun u : SG × (Nat → Int64) => wO ad o cI cC cZ cJ N u.1 u.2) (wn := fun u : SG × (Nat → Int64) => wLw ad bd o cI cC cZ cJ N u.1 g k u.2) (wr := wM bd cI cC cZ cJ g k) khL_81 hC hw hE hNC (m_L_count ea l D cI cC cZ cJ ad o N (xs (x4 + 1).toNatClampNeg) G f hlt h) [0, 1, 2, 3, 4, 5, 6, 7, 8, 9, 10, 11, 12, 13, 14, 15, 16, 17, 18, 19, 20, 21, 22, 23, 24, 25, 26, 27, 28, 58] [29, 30, 31, 32, 33, 34, 35, 36, 37, 38, 39, 40, 41, 42, 43, 44, 45, 46, 47, 48, 49, 50, 51, 52, 53, 54, 55, 56, 57] [29, 30, 31, 32, 33, 34, 35, 36, 37, 38, 39, 40, 41, 42, 43, 44, 45, 46, 47, 48, 49, 50, 51, 52, 53, 54, 55, 56, 57, 0, 1, 2, 3, 4, 5, 6, 7, 8, 9, 10, 11, 12, 13, 14, 15, 16, 17, 18, 19, 20, 21, 22, 23, 24, 25, 26, 27, 28, 58] rfl rfl rfl rfl (by decide) rfl (fun _ => rfl) rfl rfl ⟨Nat.le_of_ble_eq_true rfl, Nat.le_of_ble_eq_true rfl⟩ rfl hl.1 (Nat.le_of_ble_eq_true rfl) dL_law_398 ⟨Nat.le_trans (by omega : _ ≤ 5000) (Nat.le_of_ble_eq_true rfl), Nat.le_trans (by omega : _ ≤ 100000) (Nat.le_of_ble_eq_true rfl)⟩ rfl (fun t u H locs h hw => ?_)
  obtain ⟨G1, f1⟩ := u
  simp only [] at h hw
  unfold PP_count at h
  refine lv_istore (lv' := [(5, .int t), (0, .ref b), (1, .ref (ad 0)), (2, .ref (bd 0)), (3, .ref o), (4, .int x4)]) hx hb dL_law_401 hl (by decide) rfl (fun ls hl => ?_)
  refine lv_aload_n hx hb dL_law_403 rfl (lv_at hl 3 rfl) ?_
  refine lv_aload_n hx hb dL_law_404 rfl (lv_at hl 1 rfl) ?_
  refine lv_iload hx hb dL_law_405 (lv_at hl 5 rfl) ?_
  refine lv_iconst (v := 1) hx hb dL_law_407 (by decide) ?_
  refine lv_iadd hx hb dL_law_408 ?_
  refine va_sld hx hb hX hbl hbA hw.2.2.2.1 hin dL_law_409 ?_
  refine cVI (wf := fun u : St × StL => wM bd cI cC cZ cJ u.1 u.2) (wn := fun u : St × StL => wLw ad bd o cI cC cZ cJ N G1 u.1 u.2 f1) (wr := wT ad cI cC cZ cJ N G1 ++ [(o, .inl (cJ, 1, .inr (.inl f1)))]) (q0 := 29) kmL_83 hC hw (m_X12_count l D cI cC cZ cJ bd (xs (x4 + 1).toNatClampNeg) g k h) [29, 30, 31, 32, 33, 34, 35, 36, 37, 38, 39, 40, 41, 42, 43, 44, 45, 46, 47, 48, 49, 50, 51, 52, 53, 54, 55, 56, 57] [0, 1, 2, 3, 4, 5, 6, 7, 8, 9, 10, 11, 12, 13, 14, 15, 16, 17, 18, 19, 20, 21, 22, 23, 24, 25, 26, 27, 28, 58] [0, 1, 2, 3, 4, 5, 6, 7, 8, 9, 10, 11, 12, 13, 14, 15, 16, 17, 18, 19, 20, 21, 22, 23, 24, 25, 26, 27, 28, 30, 31, 32, 33, 34, 35, 36, 37, 38, 39, 40, 41, 42, 43, 44, 45, 46, 47, 48, 49, 50, 51, 52, 53, 54, 55, 56, 57, 58, 29] rfl rfl rfl rfl (by decide) rfl (fun _ => rfl) rfl rfl ⟨Nat.le_of_ble_eq_true rfl, Nat.le_of_ble_eq_true rfl⟩ rfl rfl rfl hl.1 (Nat.le_of_ble_eq_true rfl) dL_law_410 ⟨Nat.le_trans (by omega : _ ≤ 5000) (Nat.le_of_ble_eq_true rfl), Nat.le_trans (by omega : _ ≤ 100000) (Nat.le_of_ble_eq_true rfl)⟩ rfl ?_
  intro r u H locs h hw
  obtain ⟨g1, k1⟩ := u
  simp only [] at h hw
  refine lv_istore (lv' := [(6, .int r), (5, .int t), (0, .ref b), (1, .ref (ad 0)), (2, .ref (bd 0)), (3, .ref o), (4, .int x4)]) hx hb dL_law_413 hl (by decide) rfl (fun ls hl => ?_)
  refine lv_aload_n hx hb dL_law_415 rfl (lv_at hl 4 rfl) ?_
  refine cVI (wf := fun u : St × StL => wM bd cI cC cZ cJ u.1 u.2) (wn := fun u : St × StL => wLw ad bd o cI cC cZ cJ N G1 u.1 u.2 f1) (wr := wT ad cI cC cZ cJ N G1 ++ [(o, .inl (cJ, 1, .inr (.inl f1)))]) (q0 := 29) kmL_57 hC hw (m_X12_thrown l D cI cC cZ cJ bd g1 k1 h) [29, 30, 31, 32, 33, 34, 35, 36, 37, 38, 39, 40, 41, 42, 43, 44, 45, 46, 47, 48, 49, 50, 51, 52, 53, 54, 55, 56, 57] [0, 1, 2, 3, 4, 5, 6, 7, 8, 9, 10, 11, 12, 13, 14, 15, 16, 17, 18, 19, 20, 21, 22, 23, 24, 25, 26, 27, 28, 58] [0, 1, 2, 3, 4, 5, 6, 7, 8, 9, 10, 11, 12, 13, 14, 15, 16, 17, 18, 19, 20, 21, 22, 23, 24, 25, 26, 27, 28, 30, 31, 32, 33, 34, 35, 36, 37, 38, 39, 40, 41, 42, 43, 44, 45, 46, 47, 48, 49, 50, 51, 52, 53, 54, 55, 56, 57, 58, 29] rfl rfl rfl rfl (by decide) rfl (fun _ => rfl) rfl rfl ⟨Nat.le_of_ble_eq_true rfl, Nat.le_of_ble_eq_true rfl⟩ rfl rfl rfl hl.1 (Nat.le_of_ble_eq_true rfl) dL_law_416 ⟨Nat.le_trans (by omega : _ ≤ 5000) (Nat.le_of_ble_eq_true rfl), Nat.le_trans (by omega : _ ≤ 100000) (Nat.le_of_ble_eq_true rfl)⟩ rfl ?_
  intro t1 u H locs h hw
  obtain ⟨g2, k2⟩ := u
  simp only [] at h hw
  obtain ⟨h1, h2, h⟩ := h
  refine lv_iload hx hb dL_law_419 (lv_at hl 1 rfl) ?_
  refine lv_icmp_eq (tgt := 426) hx hb dL_law_421 (by decide) (fun _ => ?_) (fun hne => absurd h1 hne)
  refine lv_iload hx hb dL_law_426 (lv_at hl 1 rfl) ?_
  refine lv_if_ne (tgt := 443) hx hb dL_law_428 (by decide) (fun _ => ?_) (fun h0 => ?_)
  · refine lv_goto (tgt := 446) hx hb dL_law_443 (by decide) ?_
    exact kk G1 g2 k2 f1 H locs ls h hw (lv_sub hl [2, 3, 4, 5, 6] rfl)
  · refine lv_aload_n hx hb dL_law_431 rfl (lv_at hl 5 rfl) ?_
    refine lv_iconst (v := 0) hx hb dL_law_432 (by decide) ?_
    refine ldJ 58 3 hC hw rfl rfl vp01 dL_law_433 ?_
    refine lv_iload hx hb dL_law_434 (lv_at hl 0 rfl) ?_
    refine lv_i2l (v := r.toInt64) hx hb dL_law_436 rfl ?_
    refine W.lcmp hx hb dL_law_437 ?_
    refine lv_if_eq (tgt := 443) hx hb dL_law_438 (by decide) (fun _ => ?_) (fun hne => absurd ?_ hne)
    · refine lv_goto (tgt := 446) hx hb dL_law_443 (by decide) ?_
      exact kk G1 g2 k2 f1 H locs ls h hw (lv_sub hl [2, 3, 4, 5, 6] rfl)
    · rw [show f1 (0 : Int32).toNatClampNeg = r.toInt64 from h2 h0]
      exact lcmp_self _
set_option maxHeartbeats 4000000 in
set_option maxRecDepth 100000 in
theorem law_cancel (hC : CF p m c s b) (hlt : l.stackTraces = false) (hX : va_X b L xs s s.heap) (hbl : b < s.heap.size) (hE : EnT ea (AL s) s s.heap) (hNC : NCs s) {ad bd : Nat → Nat} {o N : Nat} {G : SG} {g : St} {k : StL} {f : Nat → Int64} {x4 : Int32} (hw : Wd D (ty4 cI cC cZ cJ) (AL s) s (wLw ad bd o cI cC cZ cJ N G g k f) H locs) (hl : lv_has ls 7 [(0, .ref b), (1, .ref (ad 0)), (2, .ref (bd 0)), (3, .ref o), (4, .int x4)]) {post : SG → St → StL → (Nat → Int64) → Prop} (hc5 : cells + 1 ≤ 5000) (hs5 : slots + 6 ≤ 100000) (h : LT_cancel N G g k f post) (kk : ∀ (G1 : SG) (g1 : St) (k1 : StL) (f1 : Nat → Int64) (H1 : Heap) (locs1 : List Loc) (ls1 : Array Slot), post G1 g1 k1 f1 → Wd D (ty4 cI cC cZ cJ) (AL s) s (wLw ad bd o cI cC cZ cJ N G1 g1 k1 f1) H1 locs1 → lv_has ls1 7 [(0, .ref b), (1, .ref (ad 0)), (2, .ref (bd 0)), (3, .ref o), (4, .int x4)] → W p l e room_1 s m #[Value.ref b] below meth c H1 locs1 (cells + 1) (slots + 6) (lw_Z below #[Value.ref b] s) (F0 m 446 ls1 [])) : W p l e room_1 s m #[Value.ref b] below meth c H locs cells slots (lw_Z below #[Value.ref b] s) (F0 m 152 ls []) := by
  have hx := hC.1
  have hb := hC.2.1
  unfold LT_cancel at h
  refine lv_aload_n hx hb dL_law_152 rfl (lv_at hl 1 rfl) ?_
  refine cVIe (wf := fun u : SG => wT ad cI cC cZ cJ N u) (wn := fun u : SG => wLw ad bd o cI cC cZ cJ N u g k f) (wr := wM bd cI cC cZ cJ g k ++ [(o, .inl (cJ, 1, .inr (.inl f)))]) kmL_60 hC hw hE (m_X11_cancel l D cI cC cZ cJ ad N ea G h) [0, 1, 2, 3, 4, 5, 6, 7, 8, 9, 10, 11, 12, 13, 14, 15, 16, 17, 18, 19, 20, 21, 22, 23, 24, 25, 26, 27, 28] [29, 30, 31, 32, 33, 34, 35, 36, 37, 38, 39, 40, 41, 42, 43, 44, 45, 46, 47, 48, 49, 50, 51, 52, 53, 54, 55, 56, 57, 58] [30, 31, 32, 33, 34, 35, 36, 37, 38, 39, 40, 41, 42, 43, 44, 45, 46, 47, 48, 49, 50, 51, 52, 53, 54, 55, 56, 57, 58, 0, 1, 2, 3, 4, 5, 6, 7, 8, 9, 10, 11, 12, 13, 14, 15, 16, 17, 18, 19, 20, 21, 22, 23, 24, 25, 26, 27, 28, 29] rfl rfl rfl rfl (by decide) rfl (fun _ => rfl) rfl rfl ⟨Nat.le_of_ble_eq_true rfl, Nat.le_of_ble_eq_true rfl⟩ (va_recv hw.1 hw.2.1 (ci := 11) (q0 := 0) rfl rfl) rfl hl.1 (Nat.le_of_ble_eq_true rfl) dL_law_153 ⟨Nat.le_trans (by omega : _ ≤ 5000) (Nat.le_of_ble_eq_true rfl), Nat.le_trans (by omega : _ ≤ 100000) (Nat.le_of_ble_eq_true rfl)⟩ rfl (fun r G1 H locs h hw => ?_)
  refine lv_aload_n hx hb dL_law_156 rfl (lv_at hl 2 rfl) ?_
  refine cVI (wf := fun u : St × StL => wM bd cI cC cZ cJ u.1 u.2) (wn := fun u : St × StL => wLw ad bd o cI cC cZ cJ N G1 u.1 u.2 f) (wr := wT ad cI cC cZ cJ N G1 ++ [(o, .inl (cJ, 1, .inr (.inl f)))]) (q0 := 29) kmL_63 hC hw (m_X12_cancel l D cI cC cZ cJ bd g k h) [29, 30, 31, 32, 33, 34, 35, 36, 37, 38, 39, 40, 41, 42, 43, 44, 45, 46, 47, 48, 49, 50, 51, 52, 53, 54, 55, 56, 57] [0, 1, 2, 3, 4, 5, 6, 7, 8, 9, 10, 11, 12, 13, 14, 15, 16, 17, 18, 19, 20, 21, 22, 23, 24, 25, 26, 27, 28, 58] [0, 1, 2, 3, 4, 5, 6, 7, 8, 9, 10, 11, 12, 13, 14, 15, 16, 17, 18, 19, 20, 21, 22, 23, 24, 25, 26, 27, 28, 30, 31, 32, 33, 34, 35, 36, 37, 38, 39, 40, 41, 42, 43, 44, 45, 46, 47, 48, 49, 50, 51, 52, 53, 54, 55, 56, 57, 58, 29] rfl rfl rfl rfl (by decide) rfl (fun _ => rfl) rfl rfl ⟨Nat.le_of_ble_eq_true rfl, Nat.le_of_ble_eq_true rfl⟩ rfl rfl rfl hl.1 (Nat.le_of_ble_eq_true rfl) dL_law_157 ⟨Nat.le_trans (by omega : _ ≤ 5000) (Nat.le_of_ble_eq_true rfl), Nat.le_trans (by omega : _ ≤ 100000) (Nat.le_of_ble_eq_true rfl)⟩ rfl ?_
  intro r1 u H locs h hw
  obtain ⟨g1, k1⟩ := u
  simp only [] at h hw
  obtain ⟨h1, h⟩ := h
  refine lv_icmp_eq (tgt := 446) hx hb dL_law_160 (by decide) (fun _ => ?_) (fun hne => absurd h1 hne)
  exact W.widen (by omega) (by omega) (kk G1 g1 k1 f H locs ls h hw hl)
set_option maxHeartbeats 4000000 in
set_option maxRecDepth 100000 in
theorem law_collect (hC : CF p m c s b) (hlt : l.stackTraces = false) (hX : va_X b L xs s s.heap) (hbl : b < s.heap.size) (hE : EnT ea (AL s) s s.heap) (hNC : NCs s) {ad bd : Nat → Nat} {o N : Nat} {G : SG} {g : St} {k : StL} {f : Nat → Int64} {x4 : Int32} (hw : Wd D (ty4 cI cC cZ cJ) (AL s) s (wLw ad bd o cI cC cZ cJ N G g k f) H locs) (hl : lv_has ls 7 [(0, .ref b), (1, .ref (ad 0)), (2, .ref (bd 0)), (3, .ref o), (4, .int x4)]) {post : SG → St → StL → (Nat → Int64) → Prop} (hc5 : cells + 1 ≤ 5000) (hs5 : slots + 6 ≤ 100000) (h : LT_collect N G g k f post) (kk : ∀ (G1 : SG) (g1 : St) (k1 : StL) (f1 : Nat → Int64) (H1 : Heap) (locs1 : List Loc) (ls1 : Array Slot), post G1 g1 k1 f1 → Wd D (ty4 cI cC cZ cJ) (AL s) s (wLw ad bd o cI cC cZ cJ N G1 g1 k1 f1) H1 locs1 → lv_has ls1 7 [(0, .ref b), (1, .ref (ad 0)), (2, .ref (bd 0)), (3, .ref o), (4, .int x4)] → W p l e room_1 s m #[Value.ref b] below meth c H1 locs1 (cells + 1) (slots + 6) (lw_Z below #[Value.ref b] s) (F0 m 446 ls1 [])) : W p l e room_1 s m #[Value.ref b] below meth c H locs cells slots (lw_Z below #[Value.ref b] s) (F0 m 265 ls []) := by
  have hx := hC.1
  have hb := hC.2.1
  unfold LT_collect at h
  obtain ⟨n, h⟩ := h
  refine lv_aload_n hx hb dL_law_265 rfl (lv_at hl 1 rfl) ?_
  refine cVIe (wf := fun u : SG => wT ad cI cC cZ cJ N u) (wn := fun u : SG => wLw ad bd o cI cC cZ cJ N u g k f) (wr := wM bd cI cC cZ cJ g k ++ [(o, .inl (cJ, 1, .inr (.inl f)))]) kmL_71 hC hw hE (m_X11_collect l D cI cC cZ cJ ad N ea n G h) [0, 1, 2, 3, 4, 5, 6, 7, 8, 9, 10, 11, 12, 13, 14, 15, 16, 17, 18, 19, 20, 21, 22, 23, 24, 25, 26, 27, 28] [29, 30, 31, 32, 33, 34, 35, 36, 37, 38, 39, 40, 41, 42, 43, 44, 45, 46, 47, 48, 49, 50, 51, 52, 53, 54, 55, 56, 57, 58] [30, 31, 32, 33, 34, 35, 36, 37, 38, 39, 40, 41, 42, 43, 44, 45, 46, 47, 48, 49, 50, 51, 52, 53, 54, 55, 56, 57, 58, 0, 1, 2, 3, 4, 5, 6, 7, 8, 9, 10, 11, 12, 13, 14, 15, 16, 17, 18, 19, 20, 21, 22, 23, 24, 25, 26, 27, 28, 29] rfl rfl rfl rfl (by decide) rfl (fun _ => rfl) rfl rfl ⟨Nat.le_of_ble_eq_true rfl, Nat.le_of_ble_eq_true rfl⟩ (va_recv hw.1 hw.2.1 (ci := 11) (q0 := 0) rfl rfl) rfl hl.1 (Nat.le_of_ble_eq_true rfl) dL_law_266 ⟨Nat.le_trans (by omega : _ ≤ 5000) (Nat.le_of_ble_eq_true rfl), Nat.le_trans (by omega : _ ≤ 100000) (Nat.le_of_ble_eq_true rfl)⟩ rfl (fun r G1 H locs h hw => ?_)
  obtain ⟨n2, h⟩ := h
  refine lv_aload_n hx hb dL_law_269 rfl (lv_at hl 2 rfl) ?_
  refine cVI (wf := fun u : St × StL => wM bd cI cC cZ cJ u.1 u.2) (wn := fun u : St × StL => wLw ad bd o cI cC cZ cJ N G1 u.1 u.2 f) (wr := wT ad cI cC cZ cJ N G1 ++ [(o, .inl (cJ, 1, .inr (.inl f)))]) (q0 := 29) kmL_74 hC hw (m_X12_collect l D cI cC cZ cJ bd n2 g k h) [29, 30, 31, 32, 33, 34, 35, 36, 37, 38, 39, 40, 41, 42, 43, 44, 45, 46, 47, 48, 49, 50, 51, 52, 53, 54, 55, 56, 57] [0, 1, 2, 3, 4, 5, 6, 7, 8, 9, 10, 11, 12, 13, 14, 15, 16, 17, 18, 19, 20, 21, 22, 23, 24, 25, 26, 27, 28, 58] [0, 1, 2, 3, 4, 5, 6, 7, 8, 9, 10, 11, 12, 13, 14, 15, 16, 17, 18, 19, 20, 21, 22, 23, 24, 25, 26, 27, 28, 30, 31, 32, 33, 34, 35, 36, 37, 38, 39, 40, 41, 42, 43, 44, 45, 46, 47, 48, 49, 50, 51, 52, 53, 54, 55, 56, 57, 58, 29] rfl rfl rfl rfl (by decide) rfl (fun _ => rfl) rfl rfl ⟨Nat.le_of_ble_eq_true rfl, Nat.le_of_ble_eq_true rfl⟩ rfl rfl rfl hl.1 (Nat.le_of_ble_eq_true rfl) dL_law_270 ⟨Nat.le_trans (by omega : _ ≤ 5000) (Nat.le_of_ble_eq_true rfl), Nat.le_trans (by omega : _ ≤ 100000) (Nat.le_of_ble_eq_true rfl)⟩ rfl ?_
  intro r1 u H locs h hw
  obtain ⟨g1, k1⟩ := u
  simp only [] at h hw
  obtain ⟨h1, h⟩ := h
  refine lv_icmp_eq (tgt := 446) hx hb dL_law_273 (by decide) (fun _ => ?_) (fun hne => absurd h1 hne)
  exact W.widen (by omega) (by omega) (kk G1 g1 k1 f H locs ls h hw hl)
end LAWM
