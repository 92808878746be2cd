-- ===== a list with parts is asked for: its first part is =====
section AM
variable {x : Cx} {G0 : SG} {N : Nat} {cv cf : Int32} {sv : Nat → Option Va} {rc : Nat → Va × Va} {hp : Nat → Option Ob} {out : List Nat} {inp : List Int} {cn : Nat → Int32}
theorem a_first {Kf : List Fr} {i c p st d q op : Nat} {l : List Nat} {sc : List (List Nat)} (hX : XC x G0 N) (hW : PW x sv rc hp out inp) (hCt : CtK 0 Kf cn) (hA : AkL x hp Kf p i c d q op sc l) (hs : cn 2 = nI st) (hst : st < 1000) (n1 : op ≠ 1) (n6 : op ≠ 6) (n3 : op = 3 ∨ 9 ≤ op → l ≠ []) : Stq x G0 N cv cf ((0, p, vrd i c), Kf, sv, rc, hp, out, inp, cn) := by
  obtain ⟨hi, hvo, hl, hlC, hop, hop32, hc, hpq, hq, hD, hK, hO⟩ := id hA
  have hlt := AtE_lt (rc := x.r0) (nam := x.nam) (K := x.K) (C := x.C) (c := x.c) (ent := x.ent) d sc
  have hcs : op = 0 ∨ op = 2 ∨ op = 3 ∨ op = 4 ∨ op = 5 ∨ op = 7 ∨ op = 8 ∨ 9 ≤ op := by omega
  rcases hcs with rfl | rfl | rfl | rfl | rfl | rfl | rfl | hge
  · obtain ⟨p1, h4, ⟨r1, hE, hR⟩, c1, c2, e⟩ := hO
    have := AtL_le hlt l r1 p1 hR
    refine a_push (y := i) (r := l) (p1 := r1) hX hW hCt hA hs hst n1 n6 rfl hE (by omega) ⟨by show 0 + l.length ≤ 4; omega, p1, hR, c1, ?_, e⟩
    rw [show ([] : List Va).length + l.length = l.length from Nat.zero_add _]; exact c2
  · obtain ⟨a, b, e, p1, p2, rfl, h1, hE, c1, c2, hE2, c3, c4, hB⟩ := hO
    have k1 := hlt _ _ _ hE2
    have k2 := (AtB_le hlt e (p2 + 2) q hB).1
    exact a_push (y := a) (r := b :: e) (p1 := p1) hX hW hCt hA hs hst n1 n6 rfl hE (by omega) ⟨rfl, b, e, p2, rfl, h1, c1, c2, hE2, c3, c4, hB⟩
  · cases l with
    | nil => exact absurd rfl (n3 (Or.inl rfl))
    | cons y r =>
      obtain ⟨r1, hE, hR⟩ := hO
      have := AtR_le hlt r r1 q hR
      exact a_push (y := y) (r := r) (p1 := r1) hX hW hCt hA hs hst n1 n6 rfl hE (by omega) ⟨rfl, hR⟩
  · obtain ⟨a, b, s, p1, rfl, hsy, h40, hE, e, ks, kn⟩ := hO
    exact a_push (y := b) (r := []) (p1 := p1) hX hW hCt hA hs hst n1 n6 rfl hE (by omega) ⟨rfl, rfl, a, b, s, hi, hl, hlC a (by simp), hsy, h40, e, ks, kn⟩
  · obtain ⟨a, b, p1, p2, rfl, hE, c1, c2, hB, c3, c4, c5, c6, c7, e⟩ := hO
    have k2 := (AtB_le hlt b (p1 + 2) p2 hB).1
    exact a_push (y := a) (r := b) (p1 := p1) hX hW hCt hA hs hst n1 n6 rfl hE (by omega) ⟨rfl, a, b, p + 1, p1, p2, hi, hl, hlC, hE, c1, c2, hB, c3, c4, c5, c6, c7, e, Or.inl ⟨rfl, rfl⟩⟩
  · obtain ⟨a, b, p1, p2, rfl, hE, c1, c2, hB, c3, e⟩ := hO
    have k2 := (AtB_le hlt b (p1 + 2) p2 hB).1
    exact a_push (y := a) (r := b) (p1 := p1) hX hW hCt hA hs hst n1 n6 rfl hE (by omega) ⟨p2, c3, e, Or.inl ⟨rfl, rfl, c1, c2, hB⟩⟩
  · obtain ⟨p1, h2, hL, c1, e⟩ := hO
    cases l with
    | nil => cases h2
    | cons y r =>
      have h2 : r.length + 1 = 2 := h2
      obtain ⟨r1, hE, hR⟩ := hL
      have := AtL_le hlt r r1 p1 hR
      exact a_push (y := y) (r := r) (p1 := r1) hX hW hCt hA hs hst n1 n6 rfl hE (by omega) ⟨by show 0 + r.length = 1; omega, p1, hR, c1, e⟩
  · obtain ⟨o, rfl⟩ : ∃ o, op = o + 9 := ⟨op - 9, by omega⟩
    obtain ⟨p1, f1, f2, f3, hL, c1, c2, c3, e⟩ := hO
    cases l with
    | nil => exact absurd rfl (n3 (Or.inr hge))
    | cons y r =>
      have f3 : r.length + 1 ≤ 4 := f3
      obtain ⟨r1, hE, hR⟩ := hL
      have := AtL_le hlt r r1 p1 hR
      have el : ([] : List Va).length + 1 + r.length = (y :: r).length := by show 0 + 1 + r.length = r.length + 1; omega
      refine a_push (y := y) (r := r) (p1 := r1) hX hW hCt hA hs hst n1 n6 (by rw [if_neg (by omega), if_neg (by omega)]) hE (by omega) (Or.inr ⟨hop32, ?_⟩)
      rw [el]
      exact ⟨f1, f2, f3, p1, hR, c1, c2, c3, e⟩
end AM
