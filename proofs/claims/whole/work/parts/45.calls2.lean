theorem nar_char {x : Nat} (h : x < 65536) : vp_nar .char (nI x) = nI x := by
  have : narrow .char (.int (nI x)) = .int (nI x) := by
    show Value.int ((nI x).toUInt32 % 65536).toInt32 = _
    congr 1
    apply Int32.toBitVec_inj.mp
    show BitVec.ofNat 32 x % 65536#32 = BitVec.ofNat 32 x
    apply BitVec.eq_of_toNat_eq
    rw [BitVec.toNat_umod, BitVec.toNat_ofNat, Nat.mod_eq_of_lt (show x < 2 ^ 32 by omega)]
    exact Nat.mod_eq_of_lt h
  unfold vp_nar
  rw [this]
theorem mx_up (g : St) (e i : Nat) (x : Int32) (r : Nat → Int32) : mx (up g e i x) e r = mx g e r := by
  funext b
  show cond (Nat.beq b e) r (cond (Nat.beq b e) _ (g b)) = cond (Nat.beq b e) r (g b)
  cases Nat.beq b e <;> rfl
theorem mx_self (g : St) (e : Nat) : mx g e (g e) = g := by
  funext b
  show cond (Nat.beq b e) (g e) (g b) = g b
  cases h : Nat.beq b e with
  | true => rw [Nat.eq_of_beq_eq_true h]; rfl
  | false => rfl
theorem r_takeL {post : Int32 → St → StL → Prop} {x : Int32} {k : StL} {m : Nat} {L : List Nat} (hm : m < 200) (hL : ∀ t, L.getD t 0 < 65536) : ∀ (n i : Nat) (g : St), m - i < n → i ≤ m → g 0 24 = nI m → (∀ t, i ≤ t → t ≤ m → g 23 t = nI (L.getD t 0)) → (∀ t, t < i → g 23 t = nI (L.getD (t + 1) 0)) →
    (∀ r : Nat → Int32, (∀ t, t < m → r t = nI (L.getD (t + 1) 0)) → post x (mx g 23 r) k) → V_X12_take_37 post n x (nI i) g k
  | 0, i, g => fun h => absurd h (by omega)
  | n + 1, i, g => by
    intro h1 h2 h3 h4 h5 kk
    unfold V_X12_take_37
    rw [h3]
    refine ⟨fun c => ?_, fun c => ?_⟩
    · have hi := (nI_leI (by omega) (by omega)).mp c
      have := kk (g 23) (fun t ht => h5 t (by omega))
      rw [mx_self] at this
      exact this
    · have hi : i < m := by
        rcases Nat.lt_or_ge i m with z | z
        · exact z
        · exact absurd (nI_le z (by omega)) c
      rw [nI_1]
      refine ⟨vp_in_nI (by omega) (by decide), vp_in_nI (by omega) (by decide), ?_⟩
      rw [nI_clamp (by omega), nI_clamp (by omega), h4 (i + 1) (by omega) (by omega), nar_char (hL _)]
      intro g2 e2 x3 e3
      subst e2; subst e3
      refine r_takeL hm hL n (i + 1) _ (by omega) (by omega) h3 (fun t ht1 ht2 => ?_) (fun t ht => ?_) (fun r hr => ?_)
      · show upd (g 23) i _ t = _
        rw [updN _ _ (by omega)]; exact h4 t (by omega) ht2
      · show upd (g 23) i _ t = _
        by_cases e : t = i
        · subst e; rw [updE]
        · rw [updN _ _ e]; exact h5 t (by omega)
      · rw [mx_up]; exact kk r hr
theorem litm : (-32768 : Int32) = iI (-32768) := by decide +kernel
theorem l_take {j N : Nat} {G : SG} {g : St} {k : StL} {f : Nat → Int64} {v : Int32} (h : Inv j N G g k f) (hj : j < 64) : LT_take v N G g k f (fun G1 g1 k1 f1 => Inv (j + 1) N G1 g1 k1 f1) := by
  have hI := fun (x : Int32) (f1 : Nat → Int64) => h.tick (x := x) (f1 := f1) hj
  obtain ⟨z, sy, nam, sv, rc, rn, fs, ft, K, C, lo, hi, hp, φ, b, u, ent, tp, out, inp, lv, at1, bt, h1, h2, h3, h4, h5, h6, h7, h8, h9, h10, h11, h12, h13⟩ := h
  obtain ⟨o1, o2, o3, o4, i1, i2, i3, i4⟩ := h8
  unfold LT_take V_X11_take
  refine c_worn (by omega) h3 ?_
  refine ⟨fun _ => ?_, fun c => absurd rfl c⟩
  have hq : G 6 0 1 = nI out.length := by
    obtain ⟨o, q1, q2, q3, q4, q5⟩ := o3
    rw [List.length_map] at q3
    exact q3
  have hle : out.length ≤ 200 := by
    obtain ⟨o, q1, q2, q3, q4, q5⟩ := o3
    rw [List.length_map] at q4
    exact q4
  rcases out with _ | ⟨x, l⟩
  · refine ⟨fun c => absurd hq c, fun _ => ⟨0, rfl, ?_⟩⟩
    unfold PP_take V_X12_take
    refine ⟨0, ?_⟩
    intro g4 e4
    subst e4
    refine ⟨fun c => absurd o1 c, fun _ => ?_⟩
    refine r_raise ?_
    unfold V_X12_thrown
    exact ⟨rfl, fun c => absurd c (by decide), hI 1 _⟩
  · refine ⟨fun _ => ?_, fun c => absurd (hq.symm.trans c) (nI_ne0 (by simp) (by omega))⟩
    refine v_rem (x := nI x) (l := l.map nI) (by decide) o3 (fun q6 hq6 => ?_)
    intro g6 e6
    subst e6
    unfold PP_take V_X12_take
    refine ⟨201, ?_⟩
    intro g4 e4
    subst e4
    refine ⟨fun _ => ?_, fun c => absurd (o1.symm.trans c) (nI_ne0 (by simp) (by omega))⟩
    refine ⟨vp_in_nI (n := 0) (by decide) (by decide), ?_⟩
    intro x6 e6 g7 e7 x8 e8
    subst e7; subst e8
    have hx6 : x6 = nI x := e6.trans (o2 0 (by simp))
    subst hx6
    have hlen : (x :: l).length = l.length + 1 := rfl
    refine r_takeL (m := l.length) (L := x :: l) (by omega) (fun t => ?_) 201 0 _ (by omega) (Nat.zero_le _) ?_ (fun t _ ht => o2 t (by rw [hlen]; omega)) (fun t ht => absurd ht (Nat.not_lt_zero _)) (fun r hr => ?_)
    · rw [List.getD_eq_getElem?_getD]
      cases e : (x :: l)[t]? with
      | none => decide
      | some y => exact o4 y (List.mem_of_getElem? e)
    · show g 0 24 - 1 = _
      rw [o1, hlen]; exact nI_pred _
    · unfold V_X12_thrown
      refine ⟨rfl, fun _ => by rw [updL0], ?_⟩
      refine ⟨z, sy, nam, sv, rc, rn, fs, ft, K, C, lo, hi, hp, φ, b, u, ent, tp, l, inp, lv, at1, bt, h1, by omega, rfl, h4, h5, ?_, h7, ⟨?_, fun i hi => hr i hi, hq6, fun y hy => o4 y (List.mem_cons_of_mem _ hy), i1, i2, i3, i4⟩, h9, h10, h11, h12, h13⟩
      · obtain ⟨a1, a2, a3, a4, a5, a6, a7, a9, a10, a11⟩ := h6
        exact ⟨a1, a2, a3, a4, a5, a6, a7, by omega, by omega, by omega⟩
      · show g 0 24 - 1 = _
        rw [o1, hlen]; exact nI_pred _
theorem l_give {j N : Nat} {G : SG} {g : St} {k : StL} {f : Nat → Int64} {v : Int32} (h : Inv j N G g k f) (hj : j < 64) : LT_give v N G g k f (fun G1 g1 k1 f1 => Inv (j + 1) N G1 g1 k1 f1) := by
  have hI := fun (x : Int32) (f1 : Nat → Int64) => h.tick (x := x) (f1 := f1) hj
  obtain ⟨z, sy, nam, sv, rc, rn, fs, ft, K, C, lo, hi, hp, φ, b, u, ent, tp, out, inp, lv, at1, bt, h1, h2, h3, h4, h5, h6, h7, h8, h9, h10, h11, h12, h13⟩ := h
  obtain ⟨o1, o2, o3, o4, i1, i2, i3, i4⟩ := h8
  have bad : (v < (-32768 : Int32) ∨ (32767 : Int32) < v) → ∀ f1, PP_give v g k (fun G1 g1 k1 f1 => Inv (j + 1) N G1 g1 k1 f1) (nI 1) (uo G 0 (us (G 0) 0 (nI (j + 1)))) f1 := by
    intro hv f1
    unfold PP_give V_X12_give
    intro g1 e1
    subst e1
    have fin : V_X12_raise 1 (us g 0 0) k (fun r g1 k1 => V_X12_thrown g1 k1 (fun t1 g2 k2 => t1 = nI 1 ∧ (nI 1 = 0 → f1 0 = r.toInt64) ∧ Inv (j + 1) N (uo G 0 (us (G 0) 0 (nI (j + 1)))) g2 k2 f1)) := by
      refine r_raise ?_
      unfold V_X12_thrown
      exact ⟨rfl, fun c => absurd c (by decide), hI 1 _⟩
    refine ⟨fun _ => fin, fun c => ⟨fun c2 => ?_, fun _ => fin⟩⟩
    rcases hv with hv | hv
    · exact absurd hv c
    · exact absurd c2 (Int32.not_le.mpr hv)
  unfold LT_give V_X11_give
  refine c_worn (by omega) h3 ?_
  refine ⟨fun _ => ?_, fun c => absurd rfl c⟩
  unfold V_X11_isInRange
  refine ⟨fun c => ⟨fun c0 => absurd rfl c0, fun _ => ⟨0, rfl, bad (Or.inl c) f⟩⟩, fun c => ⟨fun c1 => ⟨fun c0 => absurd rfl c0, fun _ => ⟨0, rfl, bad (Or.inr c1) f⟩⟩, fun c1 => ⟨fun _ => ?_, fun c0 => absurd c0 (by decide)⟩⟩⟩
  have c1' : v ≤ (32767 : Int32) := Int32.not_lt.mp c1
  obtain ⟨n, hn1, hn2, rfl⟩ := iI_of v
  have n1 : -32768 ≤ n := by
    by_cases z : n < -32768
    · exact absurd (by rw [litm]; exact (iI_lt (a := n) (b := -32768) hn1 hn2 (by decide) (by decide)).mpr z) c
    · omega
  have n2 : n ≤ 32767 := (iI_le (a := n) (b := 32767) hn1 hn2 (by decide) (by decide)).mp c1'
  have hq : G 5 0 1 = nI inp.length ∧ inp.length ≤ 8 := by
    obtain ⟨o, q1, q2, q3, q4, q5⟩ := i3
    rw [List.length_map] at q3 q4
    exact ⟨q3, q4⟩
  refine v_full (by decide) i3 (fun hl => ?_) (fun hl => ?_)
  · rw [List.length_map] at hl
    intro g7 e7
    subst e7
    refine ⟨fun _ => ?_, fun c0 => absurd rfl c0⟩
    refine v_addQ (l := inp.map iI) (by decide) i3 (fun _ q hq6 => ?_) (fun e => absurd e (by rw [List.length_map]; omega))
    intro g11 e11
    subst e11
    unfold PP_give V_X12_give
    intro g1 e1
    subst e1
    refine ⟨fun c0 => absurd c0 c, fun _ => ⟨fun _ => ⟨fun _ => ?_, fun e => ?_⟩, fun c0 => absurd c1' c0⟩⟩
    · have hg : (us g 0 0) 0 25 = nI inp.length := i1
      rw [hg, nI_clamp (by omega)]
      refine ⟨vp_in_nI hl (by decide), ?_⟩
      intro g8 e8 g9 e9
      subst e8; subst e9
      unfold V_X12_thrown
      have hnew : g 0 25 + 1 = nI (inp ++ [n]).length := by rw [i1, List.length_append]; exact nI_1 _
      have hnew2 : q 0 1 = nI (inp ++ [n]).length := by
        obtain ⟨o, q1, q2, q3, q4, q5⟩ := hq6
        rw [q3]; simp
      refine ⟨rfl, fun _ => ?_, ?_⟩
      · rw [updL0]
        exact congrArg Int32.toInt64 (hnew2.trans hnew.symm)
      refine ⟨z, sy, nam, sv, rc, rn, fs, ft, K, C, lo, hi, hp, φ, b, u, ent, tp, out, inp ++ [n], lv, at1, bt, h1, by omega, rfl, h4, h5, ?_, h7, ⟨o1, o2, o3, o4, hnew, fun i hi => ?_, by rw [List.map_append]; exact hq6, fun x hx => ?_⟩, h9, h10, h11, h12, h13⟩
      · obtain ⟨a1, a2, a3, a4, a5, a6, a7, a9, a10, a11⟩ := h6
        exact ⟨a1, a2, a3, a4, a5, a6, a7, by omega, by omega, by omega⟩
      · show upd (g 24) inp.length (iI n) i = _
        rw [List.length_append] at hi
        have hi : i < inp.length + 1 := hi
        by_cases e : i = inp.length
        · subst e
          rw [updE]
          simp [List.getD_eq_getElem?_getD]
        · rw [updN _ _ e, i2 i (by omega)]
          simp [List.getD_eq_getElem?_getD, List.getElem?_append_left (show i < inp.length by omega)]
      · rcases List.mem_append.mp hx with hx | hx
        · exact i4 x hx
        · rw [List.mem_singleton] at hx
          subst hx
          exact ⟨n1, n2⟩
    · have e : g 0 25 = 8 := e
      rw [i1] at e
      have := (nI_eq (a := inp.length) (b := 8) (by omega) (by decide)).mp e
      omega
  · rw [List.length_map] at hl
    intro g7 e7
    subst e7
    refine ⟨fun c0 => absurd c0 (by decide), fun _ => ⟨1, rfl, ?_⟩⟩
    unfold PP_give V_X12_give
    intro g1 e1
    subst e1
    refine ⟨fun c0 => absurd c0 c, fun _ => ⟨fun _ => ⟨fun e => absurd (i1.trans (by rw [hl]; rfl)) e, fun _ => ?_⟩, fun c0 => absurd c1' c0⟩⟩
    refine r_raise ?_
    unfold V_X12_thrown
    refine ⟨rfl, fun c => absurd c (by decide), ?_⟩
    have := hI 2 f
    refine ⟨z, sy, nam, sv, rc, rn, fs, ft, K, C, lo, hi, hp, φ, b, u, ent, tp, out, inp, lv, at1, bt, h1, by omega, rfl, h4, h5, ?_, h7, ⟨o1, o2, o3, o4, i1, i2, i3, i4⟩, h9, h10, h11, h12, h13⟩
    obtain ⟨a1, a2, a3, a4, a5, a6, a7, a9, a10, a11⟩ := h6
    exact ⟨a1, a2, a3, a4, a5, a6, a7, by omega, by omega, by omega⟩
