-- ===== symbols: the class's instructions =====
def svU (sv : Nat → Option Va) (s : Nat) (v : Va) : Nat → Option Va := fun t => if t = s then some v else sv t
theorem SymC_set {g : St} {sy s : Nat} {nam : Nat → List Nat} {sv : Nat → Option Va} {φ : Nat → Nat} {v : Va} (h : SymC g sy nam sv φ) (hs : s < sy) : SymC (up g 4 s (cw φ v)) sy nam (svU sv s v) φ := by
  obtain ⟨h1, h2, h3⟩ := h
  refine ⟨h1, fun t ht => ?_, fun t a b => ?_⟩
  · obtain ⟨a1, a2, a3, a4, a5⟩ := h2 t ht
    refine ⟨a1, a2, fun e => ?_, fun w e => ?_, a5⟩
    · show upd (g 4) s (cw φ v) t = 0
      by_cases e2 : t = s
      · rw [svU, if_pos e2] at e; cases e
      · rw [svU, if_neg e2] at e
        rw [updN _ _ e2]; exact a3 e
    · show upd (g 4) s (cw φ v) t = _
      by_cases e2 : t = s
      · rw [svU, if_pos e2] at e; cases e
        rw [e2, updE]
      · rw [svU, if_neg e2] at e
        rw [updN _ _ e2]; exact a4 w e
  · refine ⟨?_, (h3 t a b).2⟩
    show upd (g 4) s (cw φ v) t = 0
    rw [updN _ _ (by omega)]; exact (h3 t a b).1
theorem SymM_set {n : Int32} {ops has val : Nat → Int32} {nms : Nat → Int64} {sy s : Nat} {nam : Nat → List Nat} {sv : Nat → Option Va} {v : Va} (h : SymM n ops has val nms sy nam sv) (hs : s < sy) : SymM n ops (upd has s 1) (upd val s (enc v)) nms sy nam (svU sv s v) := by
  obtain ⟨h1, h2, h3⟩ := h
  refine ⟨h1, fun t ht => ?_, fun t a b => ?_⟩
  · obtain ⟨a1, a2, a3, a4⟩ := h2 t ht
    refine ⟨a1, a2, fun e => ?_, fun w e => ?_⟩
    · by_cases e2 : t = s
      · rw [svU, if_pos e2] at e; cases e
      · rw [svU, if_neg e2] at e
        rw [updN _ _ e2]; exact a3 e
    · by_cases e2 : t = s
      · rw [svU, if_pos e2] at e; cases e
        rw [e2, updE, updE]; exact ⟨rfl, rfl⟩
      · rw [svU, if_neg e2] at e
        rw [updN _ _ e2, updN _ _ e2]; exact a4 w e
  · rw [updN _ _ (by omega)]; exact h3 t a b
theorem RdC_mem {h h1 : St} {rc : Nat → Va × Va} {rn ft lo hi : Nat} {φ : Nat → Nat} {K : Nat → Nat → Prop} (hR : RdC h rc rn rn ft φ K lo hi) (hft : ft ≤ 1000) (hm : ∀ a, a < 2048 → h1 1 a = h 1 a) (h0 : ∀ j, 1 ≤ j → j ≤ 4 → h1 0 j = h 0 j) : RdC h1 rc rn rn ft φ K lo hi := by
  obtain ⟨q1, q2, q3, q4, q5, q6, q7, q8, q9, q10, q11, q12, q13, q14⟩ := hR
  refine ⟨(h0 1 (by decide) (by decide)).trans q1, (h0 2 (by decide) (by decide)).trans q2, (h0 3 (by decide) (by decide)).trans q3, (h0 4 (by decide) (by decide)).trans q4, q5, q6, q7, q8, q9, q10, q11, q12, fun i y hy => ?_, q14⟩
  have : y < ft := by
    rcases hy with hy | hy
    · exact (q9 i y hy).2
    · omega
  rw [hm _ (by omega), hm _ (by omega)]; exact q13 i y hy
theorem getD_set {l : List Int32} {i j : Nat} {w : Int32} (hj : j < l.length) : (l.set j w).getD i 0 = if i = j then w else l.getD i 0 := by
  rw [List.getD_eq_getElem?_getD, List.getD_eq_getElem?_getD, List.getElem?_set]
  by_cases e : j = i
  · subst e
    rw [if_pos rfl, if_pos rfl, if_pos hj]; rfl
  · rw [if_neg e, if_neg (fun c => e c.symm)]
theorem HpC_upd {m : Nat → Int32} {hp : Nat → Option Ob} {φ ent : Nat → Nat} {b u s j : Nat} {o o1 : Ob} {w : Int32} (h : HpC m hp φ ent b u) (ho : hp s = some o) (hj : j < olen o) (hl : olen o1 = olen o) (hw : ows φ ent o1 = (ows φ ent o).set j w) : HpC (upd m (φ s + j) w) (hset hp s o1) φ ent b u := by
  obtain ⟨h1, h2⟩ := h
  have h3 : ∀ t o2, hset hp s o1 t = some o2 → ∃ o3, hp t = some o3 ∧ olen o3 = olen o2 := by
    intro t o2 e
    by_cases e2 : t = s
    · subst e2; rw [hset_at] at e; cases e; exact ⟨o, ho, hl.symm⟩
    · rw [hset_ne _ _ e2] at e; exact ⟨o2, e, rfl⟩
  refine ⟨fun t o2 e => ?_, fun t o2 t1 o3 e e1 hne => ?_⟩
  · by_cases e2 : t = s
    · subst e2
      rw [hset_at] at e; cases e
      obtain ⟨a1, a2, a3, a4⟩ := h1 t o ho
      refine ⟨a1, a2, by omega, fun i hi => ?_⟩
      rw [hw, getD_set (by rw [ows_len]; exact hj)]
      by_cases e3 : i = j
      · subst e3; rw [updE, if_pos rfl]
      · rw [updN _ _ (by omega), if_neg e3]; exact a4 i (by omega)
    · rw [hset_ne _ _ e2] at e
      obtain ⟨a1, a2, a3, a4⟩ := h1 t o2 e
      refine ⟨a1, a2, a3, fun i hi => ?_⟩
      have := h2 t o2 s o e ho e2
      rw [updN _ _ (by omega)]; exact a4 i hi
  · obtain ⟨o4, a1, a2⟩ := h3 t o2 e
    obtain ⟨o5, b1, b2⟩ := h3 t1 o3 e1
    have := h2 t o4 t1 o5 a1 b1 hne
    omega
theorem ofs_len (o : Ob) : (ofs o).length ≤ olen o := by rcases o with ⟨a, d⟩ | l | ⟨r, e⟩ | ⟨p, q, l⟩ <;> simp [ofs, olen]
theorem HpM_upd {g : St} {hp : Nat → Option Ob} {s j : Nat} {o o1 : Ob} {w : Int32} (h : HpM g hp) (hlen : ∀ t o, hp t = some o → olen o ≤ 8) (ho : hp s = some o) (hs : s < 168) (hj : j < (ofs o).length) (h1 : osort o1 = osort o) (hl : olen o1 = olen o) (hw : ofs o1 = (ofs o).set j w) : HpM (up g 10 (8 * s + j) w) (hset hp s o1) := by
  intro t ht
  obtain ⟨a1, a2⟩ := h t ht
  refine ⟨fun e => ?_, fun o2 e => ?_⟩
  · by_cases e2 : t = s
    · subst e2; rw [hset_at] at e; cases e
    · rw [hset_ne _ _ e2] at e; exact a1 e
  · by_cases e2 : t = s
    · subst e2
      rw [hset_at] at e; cases e
      obtain ⟨b1, b2, b3⟩ := a2 o ho
      refine ⟨b1.trans (by rw [h1]), b2.trans (by rw [hl]), fun i hi => ?_⟩
      show upd (g 10) (8 * t + j) w (8 * t + i) = _
      rw [hw] at hi ⊢
      rw [List.length_set] at hi
      rw [getD_set hj]
      by_cases e3 : i = j
      · subst e3; rw [updE, if_pos rfl]
      · rw [updN _ _ (by omega), if_neg e3]; exact b3 i hi
    · rw [hset_ne _ _ e2] at e
      obtain ⟨b1, b2, b3⟩ := a2 o2 e
      refine ⟨b1, b2, fun i hi => ?_⟩
      have k1 := hlen t o2 e
      have k2 := ofs_len o2
      have k3 := hlen s o ho
      have k4 := ofs_len o
      show upd (g 10) (8 * s + j) w (8 * t + i) = _
      rw [updN _ _ (by omega)]; exact b3 i hi
section SI
variable {x : Cx} {G0 G : SG} {N : Nat} {φ : Nat → Nat} {b lo hi : Nat} {sv : Nat → Option Va} {rc : Nat → Va × Va} {hp : Nat → Option Ob} {out : List Nat} {inp : List Int} {cn : Nat → Int32} {LV LC LK : List Gw} {p n i : Nat} {post : Int32 → SG → Prop}
theorem CGsym {s : Nat} {v : Va} (hX : XC x G0 N) (h : CG x G0 φ b lo hi sv rc hp out inp cn LV LC LK p G) (hs : s < x.sy) : CG x G0 φ b lo hi (svU sv s v) rc hp out inp cn LV LC LK p (uo G 1 (up (G 1) 4 s (cw φ v))) := by
  obtain ⟨⟨a1, a2, a3, a4, a5, a6, a7, a8, a9, a10, a11, a12, a13, a14, a15, a16⟩, b1, b2, b3, b4, b5, b6⟩ := h
  exact ⟨⟨SymC_set a1 hs, a2, a3, a4, a5, a6, a7, a8, a9, a10, a11, a12, a13, fun o ho => by rw [uoN (by omega)]; exact a14 o ho, a15, a16⟩, b1, b2, b3, b4, b5, b6⟩
/-- a word of an object is replaced -/
theorem CGobj {s j : Nat} {o o1 : Ob} {w : Int32} (hX : XC x G0 N) (hs : s < 168) (h : CG x G0 φ b lo hi sv rc hp out inp cn LV LC LK p G) (ho : hp s = some o) (hj : j < olen o) (hl : olen o1 = olen o) (hw : ows φ x.ent o1 = (ows φ x.ent o).set j w) : CG x G0 φ b lo hi sv rc (hset hp s o1) out inp cn LV LC LK p (uo G 2 (up (G 2) 1 (φ s + j) w)) := by
  obtain ⟨⟨a1, a2, a3, a4, a5, a6, a7, a8, a9, a10, a11, a12, a13, a14, a15, a16⟩, b1, b2, b3, b4, b5, b6⟩ := h
  have hu : usum (hset hp s o1) 168 = usum hp 168 := by
    have := usum_set (hp := hp) (s := s) (o := o1) hs
    have e : olo hp s = olen o := by unfold olo; rw [ho]
    omega
  have hb : 2048 ≤ φ s := by
    obtain ⟨-, h1, -⟩ := a3.1 s o ho
    rcases a6 with e | e <;> omega
  refine ⟨⟨a1, RdC_mem a2 hX.2.2.2 (fun a ha => ?_) (fun j _ _ => rfl), ?_, ?_, a5, a6, a7, a8, a9, a10, a11, a12, a13, fun o ho => by rw [uoN (by omega)]; exact a14 o ho, a15, a16⟩, b1, b2, b3, b4, b5, b6⟩
  · show upd (G 2 1) (φ s + j) w a = _
    rw [updN _ _ (by omega)]
  · rw [hu]; exact HpC_upd a3 ho hj hl hw
  · rw [hu]; exact a4
theorem ccl_fe : ∀ Kf : List Fr, (ccl Kf = [] ∧ fe Kf = 0) ∨ ∃ (q : Nat) (L : List Gw), ccl Kf = gv (vnum (q : Int)) :: some (.inr (fe Kf)) :: L
  | [] => Or.inl ⟨rfl, rfl⟩
  | (op, i, rest, st, e, q, vs) :: K => by
    show ((if op = 33 then [gv (vnum (q : Int)), (some (Sum.inr e) : Gw)] else []) ++ ccl K = [] ∧ (if op = 33 then e else fe K) = 0) ∨ ∃ (q1 : Nat) (L : List Gw), (if op = 33 then [gv (vnum (q : Int)), (some (Sum.inr e) : Gw)] else []) ++ ccl K = gv (vnum (q1 : Int)) :: some (.inr (if op = 33 then e else fe K)) :: L
    by_cases e1 : op = 33
    · rw [if_pos e1, if_pos e1]
      exact Or.inr ⟨q, ccl K, rfl⟩
    · rw [if_neg e1, if_neg e1]
      exact ccl_fe K
theorem fw_held {s : Nat} {post : Int32 → Prop} (h : φ s < 4096) (k : post (nI (φ s))) : V_X10_held (fw φ (s + 1)) post := by
  refine v_held (t := 7) (h := (φ s : Int)) (by decide) (by omega) (by omega) ?_
  rw [iI_nat]; exact k
theorem c_addr9 {pl t : Nat} {R : Int32 → SG → Prop} (hX : XC x G0 N) (hu : usum hp 168 ≤ x.z) (h : CG x G0 φ b lo hi sv rc hp out inp cn LV LC LK p G) (hpl : pl < 100) (ht : ∃ p q l, hp t = some (ofrm p q l)) (k : R (nI (φ t + 2 + pl % 4)) G) : ∀ (m e n : Nat), m < n → m < 100 → FrAt hp m e t → V_X7_addressOf_9 N R n (nI pl) (fw φ e) (nI m) G
  | 0, e, n, hn, _, hF => by
    obtain ⟨n, rfl⟩ : ∃ n', n = n' + 1 := ⟨n - 1, by omega⟩
    have e1 : e = t + 1 := hF
    subst e1
    obtain ⟨p1, q1, l1, ho⟩ := ht
    have hr := CWd.rng hX hu h.1 t _ ho
    unfold V_X7_addressOf_9
    refine ⟨fun _ => fw_held hr ?_, fun c => absurd (Int32.le_refl 0) c⟩
    rw [nI_mod4 (by omega), show (2 : Int32) = nI 2 from rfl, nI_add, nI_add]
    exact k
  | m + 1, e, n, hn, hm, hF => by
    obtain ⟨n, rfl⟩ : ∃ n', n = n' + 1 := ⟨n - 1, by omega⟩
    obtain ⟨t1, p1, q1, l1, e1, ho, hF2⟩ := hF
    subst e1
    have hr := CWd.rng hX hu h.1 t1 _ ho
    obtain ⟨-, a2, a3, a4⟩ := h.1.2.2.1.1 t1 _ ho
    have hm0 : G 2 1 (φ t1) = fw φ p1 := a4 0 (by show 0 < l1.length + 2; omega)
    have hN := hX.2.1
    have hz := hX.1.2.1
    have ha : φ t1 < N := by
      have : olen (ofrm p1 q1 l1) = l1.length + 2 := rfl
      have hb := h.1.2.2.2.2.2.1
      rcases hb with e | e <;> omega
    unfold V_X7_addressOf_9
    refine ⟨fun c => absurd c (nI_nle (n := m + 1) (by omega) (by omega)), fun _ => fw_held hr (v_hat ha (by omega) (eqI ?_))⟩
    rw [show uo G 2 (G 2) = G from uo_id rfl, hm0, show nI (m + 1) + (-1 : Int32) = nI m by
      rw [show (-1 : Int32) = iI (-1) from rfl, ← iI_nat, ← iI_nat, iI_add]
      congr 1
      omega]
    exact eqI (c_addr9 hX hu h hpl ht k m p1 n (by omega) (by omega) hF2)
theorem c_addr {Kf : List Fr} {pl t : Nat} {R : Int32 → SG → Prop} (hX : XC x G0 N) (hu : usum hp 168 ≤ x.z) (h : CG x G0 φ b lo hi sv rc hp out inp cn LV (ccl Kf) LK p G) (hl : (ccl Kf).length ≤ 60) (hn : 200 ≤ n) (hpl : pl < 100) (ht : ∃ p q l, hp t = some (ofrm p q l)) (hF : FrAt hp (pl / 4) (fe Kf) t) (k : R (nI (φ t + 2 + pl % 4)) G) : V_X7_addressOf N n (nI pl) G R := by
  unfold V_X7_addressOf V_X7_frameHere
  rcases ccl_fe Kf with ⟨-, e0⟩ | ⟨q, L, e0⟩
  · exfalso
    rw [e0] at hF
    cases hm : pl / 4 with
    | zero => rw [hm] at hF; cases hF
    | succ m => rw [hm] at hF; obtain ⟨t1, _, _, _, e1, _⟩ := hF; cases e1
  · have hg := h.2.2.1
    rw [e0] at hg hl
    refine v_peek (b := 1) hg (by simp) (by rw [List.length_map]; exact hl) (by decide) (eqI ?_)
    rw [show uo G 10 (G 10) = G from uo_id rfl, show (4 : Int32) = nI 4 from rfl, nI_div (by omega) (by decide)]
    refine eqI (c_addr9 hX hu h hpl ht k (pl / 4) (fe Kf) n (by omega) (by omega) hF)
theorem i_own (hX : XC x G0 N) (h : CG x G0 φ b lo hi sv rc hp out inp cn LV LC LK p G) (hii : i < 1000000) {s : Nat} {v : Va} (hu : usum hp 168 ≤ x.z) (hpp : p + 1 < 1536) (c1 : x.c p = 3) (c2 : x.c (p + 1) = nI s) (hs : s < x.sy) (hv : sv s = some v) (hVV : VV x.K x.C hp v) (hl : LV.length < 1550) (k : ∀ G1, CG x G0 φ b lo hi sv rc hp out inp cn (gv v :: LV) LC LK (p + 2) G1 → V_X7_run_32 N post n (nI (i + 1)) G1) : V_X7_run_32 N post (n + 1) (nI i) G := by
  refine c_loop hii h.2.2.2.2.2.1 h.2.2.2.2.2.2 ?_
  have ha := CGwt (w := 0) h
  unfold V_X7_advance
  refine v_opd hX ha (by omega) (fun G1 h1 w1 o1 => ?_)
  rw [c1]
  refine ⟨fun c => absurd c (by decide), fun c => absurd c (by decide), fun _ => ?_, fun c => absurd c (by decide), fun c => absurd c (by decide), fun c => absurd c (by decide), fun c => absurd c (by decide), fun c => absurd c (by decide), fun c => absurd c (by decide), fun c => absurd c (by decide), fun c => absurd c (by decide), fun c => absurd c (by decide), fun c => absurd c (by decide), fun c => absurd c (by decide), fun c => absurd c (by decide), fun c1 c2 c3 c4 c5 c6 c7 c8 c9 c10 c11 c12 c13 c14 c15 => absurd rfl c3⟩
  refine v_opd hX h1 (by omega) (fun G2 h2 w2 o2 => ?_)
  rw [c2]
  unfold V_X7_pushOwn
  have hy := hX.1.2.2.1.2.1
  have e4 : G2 1 4 s = cw φ v := (h2.1.1.2.1 s hs).2.2.2.1 v hv
  obtain ⟨r1, r2⟩ := VV.rng hVV (CWd.rng hX hu h2.1)
  refine c_word h2.1.1.1 hs hy (eqI ?_)
  rw [show uo G2 1 (G2 1) = G2 from uo_id rfl, e4]
  refine ⟨fun _ => v_push h2.2.1 (by rw [List.length_map]; exact hl) (by decide) (fun u hu => eqI (af0 (w2.trans w1) (k _ (CG9 (LV1 := gv v :: LV) h2 hu)))), fun c => ?_⟩
  have hk := va_kd_lt v
  have hk0 := va_kd_pos v
  exfalso
  have h9 : wd (vkd v) (hld φ v) = wd 0 0 := c.trans (by decide +kernel)
  have := (wd_inj (by omega) (by decide) r1 r2 (by decide) (by decide)).mp h9
  omega
theorem i_ownX (hX : XC x G0 N) (h : CG x G0 φ b lo hi sv rc hp out inp cn LV LC LK p G) (hii : i < 1000000) {s : Nat} (hpp : p + 1 < 1536) (c1 : x.c p = 3) (c2 : x.c (p + 1) = nI s) (hs : s < x.sy) (hv : sv s = none) (hL : LB LV LC LK) (k : ∀ G1, CE x G0 φ b lo hi sv rc hp out inp cn 3 G1 → V_X7_run_32 N post n (nI (i + 1)) G1) : V_X7_run_32 N post (n + 1) (nI i) G := by
  refine c_loop hii h.2.2.2.2.2.1 h.2.2.2.2.2.2 ?_
  have ha := CGwt (w := 0) h
  unfold V_X7_advance
  refine v_opd hX ha (by omega) (fun G1 h1 w1 o1 => ?_)
  rw [c1]
  refine ⟨fun c => absurd c (by decide), fun c => absurd c (by decide), fun _ => ?_, fun c => absurd c (by decide), fun c => absurd c (by decide), fun c => absurd c (by decide), fun c => absurd c (by decide), fun c => absurd c (by decide), fun c => absurd c (by decide), fun c => absurd c (by decide), fun c => absurd c (by decide), fun c => absurd c (by decide), fun c => absurd c (by decide), fun c => absurd c (by decide), fun c => absurd c (by decide), fun c1 c2 c3 c4 c5 c6 c7 c8 c9 c10 c11 c12 c13 c14 c15 => absurd rfl c3⟩
  refine v_opd hX h1 (by omega) (fun G2 h2 w2 o2 => ?_)
  rw [c2]
  unfold V_X7_pushOwn
  have hy := hX.1.2.2.1.2.1
  have e4 : G2 1 4 s = 0 := (h2.1.1.2.1 s hs).2.2.1 hv
  refine c_word h2.1.1.1 hs hy (eqI ?_)
  rw [show uo G2 1 (G2 1) = G2 from uo_id rfl, e4]
  exact ⟨fun c => absurd rfl c, fun _ => eqI (af0 (w2.trans w1) (k _ (CGflt h2 hL)))⟩
theorem i_setown (hX : XC x G0 N) (h : CG x G0 φ b lo hi sv rc hp out inp cn LV LC LK p G) (hii : i < 1000000) {s : Nat} {v : Va} {LV1 : List Gw} (hv : LV = gv v :: LV1) (hpp : p + 1 < 1536) (c1 : x.c p = 4) (c2 : x.c (p + 1) = nI s) (hs : s < x.sy) (hl : LV.length ≤ 1550) (k : ∀ G1, CG x G0 φ b lo hi (svU sv s v) rc hp out inp cn LV LC LK (p + 2) G1 → V_X7_run_32 N post n (nI (i + 1)) G1) : V_X7_run_32 N post (n + 1) (nI i) G := by
  refine c_loop hii h.2.2.2.2.2.1 h.2.2.2.2.2.2 ?_
  have ha := CGwt (w := 0) h
  unfold V_X7_advance
  refine v_opd hX ha (by omega) (fun G1 h1 w1 o1 => ?_)
  rw [c1]
  refine ⟨fun c => absurd c (by decide), fun c => absurd c (by decide), fun c => absurd c (by decide), fun _ => ?_, fun c => absurd c (by decide), fun c => absurd c (by decide), fun c => absurd c (by decide), fun c => absurd c (by decide), fun c => absurd c (by decide), fun c => absurd c (by decide), fun c => absurd c (by decide), fun c => absurd c (by decide), fun c => absurd c (by decide), fun c => absurd c (by decide), fun c => absurd c (by decide), fun c1 c2 c3 c4 c5 c6 c7 c8 c9 c10 c11 c12 c13 c14 c15 => absurd rfl c4⟩
  refine v_opd hX h1 (by omega) (fun G2 h2 w2 o2 => ?_)
  rw [c2]
  have hy := hX.1.2.2.1.2.1
  refine v_peek (b := 0) h2.2.1 (by rw [hv]; simp) (by rw [List.length_map]; exact hl) (by decide) (eqI ?_)
  rw [show uo G2 9 (G2 9) = G2 from uo_id rfl]
  unfold V_X9_setWord
  refine c_has (s := s) h2.1.1.1 hs hy ⟨fun c => absurd c (by decide), fun _ => ⟨vp_in_nI (by omega) (by decide), eqI (eqI (af0 (w2.trans w1) (k _ ?_)))⟩⟩
  rw [nI_clamp (by omega), hv]
  rw [hv] at h2
  exact CGsym hX h2 hs
theorem i_local (hX : XC x G0 N) (hu : usum hp 168 ≤ x.z) {Kf : List Fr} (h : CG x G0 φ b lo hi sv rc hp out inp cn LV (ccl Kf) LK p G) (hii : i < 1000000) {pl t p9 : Nat} {q9 : Va} {l9 : List Va} (hpp : p + 1 < 1536) (c1 : x.c p = 5) (c2 : x.c (p + 1) = nI pl) (hpl : pl < 100) (hn : 200 ≤ n) (hLC : (ccl Kf).length ≤ 60) (hF : FrAt hp (pl / 4) (fe Kf) t) (ho : hp t = some (ofrm p9 q9 l9)) (hj : pl % 4 < l9.length) (hl : LV.length < 1550) (k : ∀ G1, CG x G0 φ b lo hi sv rc hp out inp cn (gv (l9.getD (pl % 4) none) :: LV) (ccl Kf) LK (p + 2) G1 → V_X7_run_32 N post n (nI (i + 1)) G1) : V_X7_run_32 N post (n + 1) (nI i) G := by
  refine c_loop hii h.2.2.2.2.2.1 h.2.2.2.2.2.2 ?_
  have ha := CGwt (w := 0) h
  unfold V_X7_advance
  refine v_opd hX ha (by omega) (fun G1 h1 w1 o1 => ?_)
  rw [c1]
  refine ⟨fun c => absurd c (by decide), fun c => absurd c (by decide), fun c => absurd c (by decide), fun c => absurd c (by decide), fun _ => ?_, fun c => absurd c (by decide), fun c => absurd c (by decide), fun c => absurd c (by decide), fun c => absurd c (by decide), fun c => absurd c (by decide), fun c => absurd c (by decide), fun c => absurd c (by decide), fun c => absurd c (by decide), fun c => absurd c (by decide), fun c => absurd c (by decide), fun c1 c2 c3 c4 c5 c6 c7 c8 c9 c10 c11 c12 c13 c14 c15 => absurd rfl c5⟩
  refine v_opd hX h1 (by omega) (fun G2 h2 w2 o2 => ?_)
  rw [c2]
  obtain ⟨-, a2, a3, a4⟩ := h2.1.2.2.1.1 t _ ho
  have hN := hX.2.1
  have hz := hX.1.2.1
  have a3 : φ t + (l9.length + 2) ≤ b + usum hp 168 := a3
  have hal : φ t + 2 + pl % 4 < N := by
    have hb := h2.1.2.2.2.2.2.1
    rcases hb with e | e <;> omega
  have hm : G2 2 1 (φ t + 2 + pl % 4) = cw φ (l9.getD (pl % 4) none) := by
    have := a4 (2 + pl % 4) (by show 2 + pl % 4 < l9.length + 2; omega)
    rw [show φ t + 2 + pl % 4 = φ t + (2 + pl % 4) by omega, this]
    show (fw φ p9 :: wd 2 l9.length :: l9.map (cw φ)).getD (2 + pl % 4) 0 = _
    rw [show 2 + pl % 4 = (pl % 4) + 1 + 1 by omega]
    show (l9.map (cw φ)).getD (pl % 4) 0 = _
    rw [List.getD_eq_getElem?_getD, List.getElem?_map, List.getElem?_eq_getElem hj, List.getD_eq_getElem?_getD, List.getElem?_eq_getElem hj]; rfl
  refine c_addr hX hu h2 hLC hn hpl ⟨_, _, _, ho⟩ hF (v_hat hal (by omega) (eqI ?_))
  rw [show uo G2 2 (G2 2) = G2 from uo_id rfl, hm]
  exact v_push h2.2.1 (by rw [List.length_map]; exact hl) (by decide) (fun u hu => eqI (af0 (w2.trans w1) (k _ (CG9 (LV1 := gv (l9.getD (pl % 4) none) :: LV) h2 hu))))
theorem i_setloc (hX : XC x G0 N) (hu : usum hp 168 ≤ x.z) {Kf : List Fr} (h : CG x G0 φ b lo hi sv rc hp out inp cn LV (ccl Kf) LK p G) (hii : i < 1000000) {pl t p9 : Nat} {q9 v : Va} {l9 : List Va} {LV1 : List Gw} (hv : LV = gv v :: LV1) (hpp : p + 1 < 1536) (c1 : x.c p = 6) (c2 : x.c (p + 1) = nI pl) (hpl : pl < 100) (hn : 200 ≤ n) (hLC : (ccl Kf).length ≤ 60) (hF : FrAt hp (pl / 4) (fe Kf) t) (ht : t < 168) (ho : hp t = some (ofrm p9 q9 l9)) (hj : pl % 4 < l9.length) (hl : LV.length ≤ 1550) (k : ∀ G1, CG x G0 φ b lo hi sv rc (hset hp t (ofrm p9 q9 (l9.set (pl % 4) v))) out inp cn LV (ccl Kf) LK (p + 2) G1 → V_X7_run_32 N post n (nI (i + 1)) G1) : V_X7_run_32 N post (n + 1) (nI i) G := by
  refine c_loop hii h.2.2.2.2.2.1 h.2.2.2.2.2.2 ?_
  have ha := CGwt (w := 0) h
  unfold V_X7_advance
  refine v_opd hX ha (by omega) (fun G1 h1 w1 o1 => ?_)
  rw [c1]
  refine ⟨fun c => absurd c (by decide), fun c => absurd c (by decide), fun c => absurd c (by decide), fun c => absurd c (by decide), fun c => absurd c (by decide), fun _ => ?_, fun c => absurd c (by decide), fun c => absurd c (by decide), fun c => absurd c (by decide), fun c => absurd c (by decide), fun c => absurd c (by decide), fun c => absurd c (by decide), fun c => absurd c (by decide), fun c => absurd c (by decide), fun c => absurd c (by decide), fun c1 c2 c3 c4 c5 c6 c7 c8 c9 c10 c11 c12 c13 c14 c15 => absurd rfl c6⟩
  refine v_opd hX h1 (by omega) (fun G2 h2 w2 o2 => ?_)
  rw [c2]
  obtain ⟨-, a2, a3, a4⟩ := h2.1.2.2.1.1 t _ ho
  have hN := hX.2.1
  have hz := hX.1.2.1
  have a3 : φ t + (l9.length + 2) ≤ b + usum hp 168 := a3
  have hal : φ t + 2 + pl % 4 < N := by
    have hb := h2.1.2.2.2.2.2.1
    rcases hb with e | e <;> omega
  refine c_addr hX hu h2 hLC hn hpl ⟨_, _, _, ho⟩ hF ?_
  refine v_peek (b := 0) h2.2.1 (by rw [hv]; simp) (by rw [List.length_map]; exact hl) (by decide) (eqI ?_)
  rw [show uo G2 9 (G2 9) = G2 from uo_id rfl]
  refine v_put hal (by omega) (eqI (af0 (w2.trans w1) (k _ ?_)))
  have e9 : (List.map (gw φ) LV).getD 0 0 = cw φ v := by rw [hv]; rfl
  rw [e9, show φ t + 2 + pl % 4 = φ t + (2 + pl % 4) by omega]
  refine CGobj hX ht h2 ho (by show 2 + pl % 4 < l9.length + 2; omega) (by show (l9.set (pl % 4) v).length + 2 = l9.length + 2; rw [List.length_set]) ?_
  show fw φ p9 :: wd 2 ((l9.set (pl % 4) v).length : Int) :: (l9.set (pl % 4) v).map (cw φ) = (fw φ p9 :: wd 2 (l9.length : Int) :: l9.map (cw φ)).set (2 + pl % 4) (cw φ v)
  rw [List.length_set, show 2 + pl % 4 = (pl % 4) + 1 + 1 by omega, List.set_cons_succ, List.set_cons_succ, List.map_set]
end SI
