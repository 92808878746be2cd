-- ===== a call, both sides =====
section CD1
variable {x : Cx} {G0 G : SG} {N : Nat} {φ : Nat → Nat} {b lo hi : Nat} {sv : Nat → Option Va} {rc : Nat → Va × Va} {hp : Nat → Option Ob} {out : List Nat} {inp : List Int} {cn : Nat → Int32} {LV LC LK : List Gw} {p n i : Nat} {post : Int32 → SG → Prop}
theorem i_callA {m : Nat} {R : SG → Prop} (hX : XC x G0 N) (h : CG x G0 φ b lo hi sv rc hp out inp cn LV LC LK p G) (hw : G 4 0 3 = 0) (hpp : p + 1 < 1536) (c1 : x.c p = 16) (c2 : x.c (p + 1) = nI m) (k : ∀ G1, CG x G0 φ b lo hi sv rc hp out inp cn LV LC LK (p + 2) G1 → G1 4 0 3 = 0 → V_X7_enter N n (nI m) G1 (fun g => R g)) : V_X7_advance N n G R := by
  unfold V_X7_advance
  refine v_opd hX h (by omega) (fun G1 h1 w1 o1 => ?_)
  rw [c1]
  refine ⟨fun c => absurd c (by decide), fun c => absurd c (by decide), fun c => absurd c (by decide), fun c => absurd c (by decide), fun c => absurd c (by decide), fun c => absurd c (by decide), fun c => absurd c (by decide), fun c => absurd c (by decide), fun c => absurd c (by decide), fun c => absurd c (by decide), fun c => absurd c (by decide), fun c => absurd c (by decide), fun c => absurd c (by decide), fun c => absurd c (by decide), fun c => absurd c (by decide), fun _ _ _ _ _ _ _ _ _ _ _ _ _ _ _ => ?_⟩
  unfold V_X7_advanceControl
  refine ⟨fun c => absurd c (by decide), fun c => absurd c (by decide), fun c => absurd c (by decide), fun c => absurd c (by decide), fun c => absurd c (by decide), fun c => absurd c (by decide), fun _ => ?_, fun c10 c11 c12 c13 c14 c15 c16 => absurd rfl c16⟩
  refine v_opd hX h1 (by omega) (fun G2 h2 w2 o2 => ?_)
  rw [c2]
  exact k G2 h2 (w2.trans (w1.trans hw))
/-- a frame is made and entered -/
theorem i_enter {Kf : List Fr} {as : List Va} {fv : Va} {L1 : List Gw} {s s0 r e0 ncl : Nat} {q9 : Va} {R : SG → Prop} (hX : XC x G0 N) (hW : PW x sv rc hp out inp) (hGd : Gd x hp Kf) (h : CG x G0 φ b lo hi sv rc hp out inp cn ((cvl Kf).map gv) (ccl Kf) (cat Kf) p G) (ev : (cvl Kf).map gv = (as ++ [fv]).map gv ++ L1) (hl : ((as ++ [fv]).map gv ++ L1).length ≤ 1550) (hf : VV x.K x.C hp fv) (hm4 : as.length ≤ 4) (hV : ∀ v ∈ as, VV x.K x.C hp v) (ef : fv = vclo s0) (ho : hp s0 = some (oclo r e0)) (hc : x.c (x.ent r) = nI as.length) (hLC : (ccl Kf).length = 2 * ncl) (hnc : ncl < 30) (hr : usum hp 168 + (as.length + 2) ≤ x.z) (hs : s < 168) (hn : hp s = none) (hpp : p < 1400) (hn2 : 10 ≤ n)
    (kk : ∀ G1, G1 4 0 3 = G 4 0 3 → CG x G0 (phS φ s (b + usum hp 168)) b lo hi sv rc (hset hp s (ofrm e0 q9 as.reverse)) out inp (cnU cn 3 (if cn 3 < nI (ncl + 1) then nI (ncl + 1) else cn 3)) L1 (gv (vnum (p : Int)) :: some (.inr (s + 1)) :: ccl Kf) (cat Kf) (x.ent r + 1) G1 → R G1) : V_X7_enter N n (nI as.length) G R := by
  have hu := hW.2.2.2.2.2.2.1
  obtain ⟨n1, n2, n3⟩ := CG_N hX h
  have hne := rows_ne hGd hn
  have hG2 := h
  rw [ev] at hG2
  have e10 : G 10 0 0 = nI (2 * ncl) := by have := h.2.2.1.1; rw [List.length_map, hLC] at this; exact this
  refine c_enter hX hW hG2 hl hf (fun k4 => absurd hc (k4 s0 r e0 ef ho)) (fun s1 r1 e1 ef1 hs1 ho1 hc1 hent => ?_)
  rw [ef] at ef1
  cases ef1
  rw [ho] at ho1
  cases ho1
  obtain ⟨-, a2, a3, a4⟩ := h.1.2.2.1.1 s0 _ ho
  have a3 : φ s0 + 2 ≤ b + usum hp 168 := a3
  have hm1 : G 2 1 (φ s0 + 1) = fw φ e0 := a4 1 (by show 1 < 2; decide)
  have hel := (hW.2.2.2.2.2.1 s0 _ ho).2
  refine ⟨fun _ => ?_, fun c => absurd (by rw [e10]; exact nI_lt (b := 60) (by omega) (by decide)) c⟩
  rw [show (2 : Int32) + nI as.length = nI (as.length + 2) by rw [show (2 : Int32) = nI 2 from rfl, nI_add, Nat.add_comm]]
  refine c_roomY hX hG2 (by omega) hr ⟨fun c => absurd c (by decide), fun _ => c_make (m := as.length + 2) hG2 (eqI ?_)⟩
  rw [nI_1]
  refine v_hat (by omega) (by omega) (eqI ?_)
  rw [show (uo G 2 (us (G 2) 8 (nI (usum hp 168 + (as.length + 2))))) 2 1 (φ s0 + 1) = fw φ e0 from hm1, show uo (uo G 2 (us (G 2) 8 (nI (usum hp 168 + (as.length + 2))))) 2 ((uo G 2 (us (G 2) 8 (nI (usum hp 168 + (as.length + 2))))) 2) = uo G 2 (us (G 2) 8 (nI (usum hp 168 + (as.length + 2)))) from uo_id rfl]
  refine v_put (by omega) (by omega) (eqI ?_)
  rw [← iI_nat as.length]
  refine v_of (t := 2) (by decide) ?_
  rw [nI_1]
  refine v_put (by omega) (by omega) (eqI (eqI ?_))
  rw [uo_uo, uo_uo, iI_nat]
  refine c_ent140 (h0 := G 2) (a := b + usum hp 168) (u := usum hp 168) (w0 := fw φ e0) (as := as) (L1 := L1) (L2 := ccl Kf) (pq := p) hX rfl hm4 (by omega) n3 (by simpa using hl) (by omega) (by omega) (by omega) fv hG2.2.1 h.2.2.1 h.2.2.2.2.1 (fun h1 u9 u10 hI hu9 hu10 G1 g1 g2 g9 g10 g40 g45 g4 => ?_) as.length 0 n _ (by omega) (by omega) ⟨?_, fun t ht => us4 _ _ ht, fun t ht => ?_, ?_, ?_, fun t ht => absurd ht (Nat.not_lt_zero _)⟩
  · obtain ⟨i1, i2, i3, i4, i5, i6⟩ := hI
    have hef : fw (phS φ s (b + usum hp 168)) e0 = fw φ e0 := by
      refine gw_phS (y := some (.inr e0)) (fun c => ?_)
      obtain ⟨d, sc, ps, b9, p9, -, -, -, -, -, -, -, -, q9', -, -⟩ := hel
      obtain ⟨o, ho2⟩ := gok_ref (eok_gok (EnvR_ok q9')) c
      rw [hn] at ho2; cases ho2
    have hnew := CGnew (s := s) (o := ofrm e0 q9 as.reverse) (h1 := h1) hX hW h hs hn hne (by
      rw [i1]
      show nI (usum hp 168 + (as.length + 2)) = nI (usum hp 168 + (as.reverse.length + 2))
      rw [List.length_reverse]) i2 i3 (fun t ht => ?_)
    · obtain ⟨⟨d1, d2, d3, d4, d5, d6, d7, d8, d9, d10, d11, d12, d13, d14, d15, d16⟩, e1, e2, e3, e4, e5, e6⟩ := hnew
      have mp : ∀ L : List Gw, (∀ y ∈ L, gref y ≠ some s) → L.map (gw (phS φ s (b + usum hp 168))) = L.map (gw φ) := fun L hL => List.map_congr_left (fun y hy => gw_phS (hL y hy))
      have f2 : G1 2 = (uo G 2 h1) 2 := g2
      have fo : ∀ o, o ≠ 2 → o ≠ 4 → o ≠ 9 → o ≠ 10 → G1 o = (uo G 2 h1) o := fun o o2 o4 o9 o10 => by rw [uoN o2]; exact g1 o o2 o4 o9 o10
      refine kk G1 (g4 3 (by decide) (by decide)) ⟨⟨?_, ?_, ?_, ?_, ?_, d6, ?_, ?_, ?_, ?_, ?_, ?_, ?_, fun o ho => ?_, ?_, ?_⟩, ?_, ?_, ?_, g40, ?_, ?_⟩
      · rw [fo 1 (by decide) (by decide) (by decide) (by decide)]; exact d1
      · rw [f2]; exact d2
      · rw [f2]; exact d3
      · rw [f2]; exact d4
      · rw [f2]; exact d5
      · rw [f2]; exact d7
      · rw [fo 6 (by decide) (by decide) (by decide) (by decide)]; exact d8
      · rw [fo 5 (by decide) (by decide) (by decide) (by decide)]; exact d9
      · rw [f2]; exact d10
      · rw [f2]; exact d11
      · rw [g4 4 (by decide) (by decide)]; exact d12
      · have e13 : G 4 0 5 = cn 3 := d13
        rw [g45, e13, hLC, show (2 * ncl + 2) / 2 = ncl + 1 by omega, cnU_at]
      · rw [fo o (by omega) (by omega) (by omega) (by omega)]; exact d14 o ho
      · rw [g4 6 (by decide) (by decide)]; exact d15
      · rw [g4 7 (by decide) (by decide)]; exact d16
      · rw [g9, mp L1 (fun y hy => hne y (Or.inl (by rw [ev]; exact List.mem_append.mpr (Or.inr hy))))]; exact hu9
      · rw [g10, List.map_cons, List.map_cons, mp (ccl Kf) (fun y hy => hne y (Or.inr (Or.inl hy)))]
        have ew : gw (phS φ s (b + usum hp 168)) (some (.inr (s + 1))) = wd 7 ((b + usum hp 168 : Nat) : Int) := by
          show wd 7 ((phS φ s (b + usum hp 168) s : Nat) : Int) = _
          rw [phS, if_pos rfl]
        rw [ew]; exact hu10
      · rw [fo 11 (by decide) (by decide) (by decide) (by decide)]; exact e3
      · rw [g4 1 (by decide) (by decide)]; exact e5
      · rw [g4 2 (by decide) (by decide)]; exact e6
    · have ht : t < as.reverse.length + 2 := ht
      rw [List.length_reverse] at ht
      show h1 1 _ = (fw (phS φ s (b + usum hp 168)) e0 :: wd 2 (as.reverse.length : Int) :: as.reverse.map (cw (phS φ s (b + usum hp 168)))).getD t 0
      rw [hef, List.length_reverse]
      match t, ht with
      | 0, _ => exact i4
      | 1, _ => exact i5
      | t + 2, ht =>
        have ht2 : t < as.length := by omega
        have hrl : t < as.reverse.length := by rw [List.length_reverse]; exact ht2
        rw [show b + usum hp 168 + (t + 2) = b + usum hp 168 + 2 + t by omega, i6 t ht2]
        show cw φ (as.reverse.getD t none) = (as.reverse.map (cw (phS φ s (b + usum hp 168)))).getD t 0
        have hmem : as.reverse.getD t none ∈ as := List.mem_reverse.mp (l_getD hrl)
        rw [← cw_phS (φ := φ) (a := b + usum hp 168) (hV _ hmem) hn, List.getD_eq_getElem?_getD, List.getD_eq_getElem?_getD, List.getElem?_map, List.getElem?_eq_getElem hrl]; rfl
  · rfl
  · show upd (upd (G 2 1) (b + usum hp 168) _) (b + usum hp 168 + 1) _ t = _
    rw [updN _ _ (by omega), updN _ _ (by omega)]
  · show upd (upd (G 2 1) (b + usum hp 168) _) (b + usum hp 168 + 1) _ (b + usum hp 168) = _
    rw [updN _ _ (by omega), updE]
  · exact updE _ _ _
end CD1
