/-! both sides of one call -/
def INV (I : sI) (J : sJ) (P : sP) (K : sK) (n : Nat) : Prop := K 116 = (14, 1) ∧ ∃ tl tp f hd nm so c us bm row ask st wr tx sn im, XR I J P K n tl tp f hd nm so c us bm row ask st wr tx sn im ∧ MR I J P K tl tp f hd nm so c us bm row ask st wr tx sn im
def grw (K K' : sK) (n n' : Nat) : Prop := n ≤ n' ∧ n' ≤ n + 30 ∧ gS K' n' ≤ gS K n + 1000
theorem grw_rf (K : sK) (n : Nat) : grw K K n n := ⟨Nat.le_refl _, by omega, by omega⟩
section LawS
variable {G : gG} {d : Nat} {I I' I1 I2 : sI} {J J' : sJ} {P P' P1 P2 : sP} {K K' : sK} {n n' : Nat} {A : Int32 → Int32 → sI → sJ → sP → sK → Nat → Prop} {AK : Int32 → Int32 → sI → sJ → Prop}
variable {tl : Nat} {tp : Nat → Nat} {f : Int32} {hd so : Nat → Nat} {nm : Nat → List Nat} {c : Nat} {us : Nat → Nat → Nat} {bm : Nat} {row : Nat → Nat} {ask st : Int32} {wr : Option (Nat → Int32)} {tx : List Nat} {sn : Option (List itT)} {im : Nat → Option imT}
theorem XR_wi (h : XR I J P K n tl tp f hd nm so c us bm row ask st wr tx sn im) : ∀ j p, j < 2 → im j = some p → p.1.1 0 ≤ 5 := by
  obtain ⟨-, -, -, cs, nx, -, -, -, -, -, -, -, M⟩ := h
  intro j p hj e
  have := M j hj
  rw [e] at this
  obtain ⟨⟨a, l, -, -, -, -, -, -, -, w⟩, -⟩ := this
  exact w.1
theorem st_K (hn : 116 < n) (k : K 116 = (14, 1)) (s : stX I I' J J' P P' K K' n n') : K' 116 = (14, 1) := (s.2.1 116 hn).trans k
theorem st_g (s : stX I I' J J' P P' K K' n n') : grw K K' n n' := ⟨s.2.2.1, s.2.2.2.1, s.2.2.2.2⟩
theorem LS_cask (x y : Int32) (h : INV I J P K n) (hA : ∀ v I' J', INV I' J' P K n → AK v v I' J') : ckI G (d + 100) mX11_cask [.ref 0, .int x, .int y] I J P K n (fun v1 I1 J1 => ckI G (d + 100) mX12_cask [.ref 91, .int x, .int y] I1 J1 P K n (fun v2 I2 J2 => AK v1 v2 I2 J2)) := by
  obtain ⟨k116, tl, tp, f, hd, nm, so, c, us, bm, row, ask, st, wr, tx, sn, im, hR, hM⟩ := h
  obtain ⟨hX, hn, hL, cs, nx, hh⟩ := id hR
  obtain ⟨a, l, p8, e0, oa, oL, S, L, N, C, w⟩ := XH_sC hh
  obtain ⟨m1, m2, m3, m4, m5, m6, m7, m8, m9, m10, m11, m12, m13⟩ := id hM
  exact C_cask x y hX p8 S L C w (M_cask x y m1 m4 w (hA _ _ _ ⟨k116, _, _, _, _, _, _, _, _, _, _, _, _, _, _, _, _, XR_md hR (md_0 0), MR_0 0 hM⟩))
theorem LS_scale (x y : Int32) (h : INV I J P K n) (hA : ∀ v I' J', INV I' J' P K n → AK v v I' J') : ckI G (d + 100) mX11_scale [.ref 0, .int x, .int y] I J P K n (fun v1 I1 J1 => ckI G (d + 100) mX12_scale [.ref 91, .int x, .int y] I1 J1 P K n (fun v2 I2 J2 => AK v1 v2 I2 J2)) := by
  obtain ⟨k116, tl, tp, f, hd, nm, so, c, us, bm, row, ask, st, wr, tx, sn, im, hR, hM⟩ := h
  obtain ⟨hX, hn, hL, cs, nx, hh⟩ := id hR
  obtain ⟨a, l, p8, e0, oa, oL, S, L, N, C, w⟩ := XH_sC hh
  obtain ⟨m1, m2, m3, m4, m5, m6, m7, m8, m9, m10, m11, m12, m13⟩ := id hM
  exact C_scale x y hX p8 S L C w (M_scale x y m1 m4 w (hA _ _ _ ⟨k116, _, _, _, _, _, _, _, _, _, _, _, _, _, _, _, _, XR_md hR (md_0 0), MR_0 0 hM⟩))
theorem LS_now (x : Int32) (h : INV I J P K n) (hA : ∀ v I' J', INV I' J' P K n → AK v v I' J') : ckI G (d + 100) mX11_now [.ref 0, .int x] I J P K n (fun v1 I1 J1 => ckI G (d + 100) mX12_now [.ref 91, .int x] I1 J1 P K n (fun v2 I2 J2 => AK v1 v2 I2 J2)) := by
  obtain ⟨k116, tl, tp, f, hd, nm, so, c, us, bm, row, ask, st, wr, tx, sn, im, hR, hM⟩ := h
  obtain ⟨hX, hn, hL, cs, nx, hh⟩ := id hR
  obtain ⟨a, l, p8, e0, oa, oL, S, L, N, C, w⟩ := XH_sC hh
  obtain ⟨m1, m2, m3, m4, m5, m6, m7, m8, m9, m10, m11, m12, m13⟩ := id hM
  exact C_now x hX p8 S L C w (M_now x m1 m4 w (hA _ _ _ ⟨k116, _, _, _, _, _, _, _, _, _, _, _, _, _, _, _, _, XR_md hR (md_0 0), MR_0 0 hM⟩))
theorem LS_bottle (x : Int32) (h : INV I J P K n) (hA : ∀ v I' J', INV I' J' P K n → AK v v I' J') : ckI G (d + 100) mX11_bottle [.ref 0, .int x] I J P K n (fun v1 I1 J1 => ckI G (d + 100) mX12_bottle [.ref 91, .int x] I1 J1 P K n (fun v2 I2 J2 => AK v1 v2 I2 J2)) := by
  obtain ⟨k116, tl, tp, f, hd, nm, so, c, us, bm, row, ask, st, wr, tx, sn, im, hR, hM⟩ := h
  obtain ⟨hX, hn, hL, cs, nx, hh⟩ := id hR
  obtain ⟨a, l, p8, e0, oa, oL, S, L, N, C, w⟩ := XH_sC hh
  obtain ⟨m1, m2, m3, m4, m5, m6, m7, m8, m9, m10, m11, m12, m13⟩ := id hM
  exact C_bottle x hX p8 S C (M_bottle x m1 m4 (hA _ _ _ ⟨k116, _, _, _, _, _, _, _, _, _, _, _, _, _, _, _, _, XR_md hR (md_0 0), MR_0 0 hM⟩))
theorem LS_older (x : Int32) (h : INV I J P K n) (hA : ∀ v I' J', INV I' J' P K n → AK v v I' J') : ckI G (d + 100) mX11_older [.ref 0, .int x] I J P K n (fun v1 I1 J1 => ckI G (d + 100) mX12_older [.ref 91, .int x] I1 J1 P K n (fun v2 I2 J2 => AK v1 v2 I2 J2)) := by
  obtain ⟨k116, tl, tp, f, hd, nm, so, c, us, bm, row, ask, st, wr, tx, sn, im, hR, hM⟩ := h
  obtain ⟨hX, hn, hL, cs, nx, hh⟩ := id hR
  obtain ⟨a, l, p8, e0, oa, oL, S, L, N, C, w⟩ := XH_sC hh
  obtain ⟨m1, m2, m3, m4, m5, m6, m7, m8, m9, m10, m11, m12, m13⟩ := id hM
  exact C_older x hX p8 S L C w (M_older x m1 m4 w (hA _ _ _ ⟨k116, _, _, _, _, _, _, _, _, _, _, _, _, _, _, _, _, XR_md hR (md_0 0), MR_0 0 hM⟩))
theorem LS_where (x : Int32) (h : INV I J P K n) (hA : ∀ v I' J', INV I' J' P K n → AK v v I' J') : ckI G (d + 100) mX11_where [.ref 0, .int x] I J P K n (fun v1 I1 J1 => ckI G (d + 100) mX12_where [.ref 91, .int x] I1 J1 P K n (fun v2 I2 J2 => AK v1 v2 I2 J2)) := by
  obtain ⟨k116, tl, tp, f, hd, nm, so, c, us, bm, row, ask, st, wr, tx, sn, im, hR, hM⟩ := h
  obtain ⟨hX, hn, hL, cs, nx, hh⟩ := id hR
  obtain ⟨a, l, p8, e0, oa, oL, S, L, N, C, w⟩ := XH_sC hh
  obtain ⟨m1, m2, m3, m4, m5, m6, m7, m8, m9, m10, m11, m12, m13⟩ := id hM
  exact C_where x hX p8 S L C w (M_where x m1 m4 w (hA _ _ _ ⟨k116, _, _, _, _, _, _, _, _, _, _, _, _, _, _, _, _, XR_md hR (md_0 0), MR_0 0 hM⟩))
theorem LS_count (x : Int32) (h : INV I J P K n) (hA : ∀ v I' J', INV I' J' P K n → AK v v I' J') : ckI G (d + 100) mX11_count [.ref 0, .int x] I J P K n (fun v1 I1 J1 => ckI G (d + 100) mX12_count [.ref 91, .int x] I1 J1 P K n (fun v2 I2 J2 => AK v1 v2 I2 J2)) := by
  obtain ⟨k116, tl, tp, f, hd, nm, so, c, us, bm, row, ask, st, wr, tx, sn, im, hR, hM⟩ := h
  obtain ⟨hX, hn, hL, cs, nx, hh⟩ := id hR
  obtain ⟨a, l, p8, e0, oa, oL, S, L, N, C, w⟩ := XH_sC hh
  obtain ⟨m1, m2, m3, m4, m5, m6, m7, m8, m9, m10, m11, m12, m13⟩ := id hM
  exact C_count x hX p8 S L hL.1.1 (M_count x m1 m4 m2.1 (hA _ _ _ ⟨k116, _, _, _, _, _, _, _, _, _, _, _, _, _, _, _, _, XR_md hR (md_0 0), MR_0 0 hM⟩))
theorem LS_blendAt (x : Int32) (h : INV I J P K n) (hA : ∀ v I' J', INV I' J' P K n → AK v v I' J') : ckI G (d + 100) mX11_blendAt [.ref 0, .int x] I J P K n (fun v1 I1 J1 => ckI G (d + 100) mX12_blendAt [.ref 91, .int x] I1 J1 P K n (fun v2 I2 J2 => AK v1 v2 I2 J2)) := by
  obtain ⟨k116, tl, tp, f, hd, nm, so, c, us, bm, row, ask, st, wr, tx, sn, im, hR, hM⟩ := h
  obtain ⟨hX, hn, hL, cs, nx, hh⟩ := id hR
  obtain ⟨a, l, p8, e0, oa, oL, S, L, N, C, w⟩ := XH_sC hh
  obtain ⟨m1, m2, m3, m4, m5, m6, m7, m8, m9, m10, m11, m12, m13⟩ := id hM
  exact X_blendAt x hR (M_blendAt x m1 m7 (hA _ _ _ ⟨k116, _, _, _, _, _, _, _, _, _, _, _, _, _, _, _, _, XR_md hR (md_0 0), MR_0 0 hM⟩))
theorem LS_told (x : Int32) (h : INV I J P K n) (hA : ∀ v I' J', INV I' J' P K n → AK v v I' J') : ckI G (d + 100) mX11_told [.ref 0, .int x] I J P K n (fun v1 I1 J1 => ckI G (d + 100) mX12_told [.ref 91, .int x] I1 J1 P K n (fun v2 I2 J2 => AK v1 v2 I2 J2)) := by
  obtain ⟨k116, tl, tp, f, hd, nm, so, c, us, bm, row, ask, st, wr, tx, sn, im, hR, hM⟩ := h
  obtain ⟨hX, hn, hL, cs, nx, hh⟩ := id hR
  obtain ⟨a, l, p8, e0, oa, oL, S, L, N, C, w⟩ := XH_sC hh
  obtain ⟨m1, m2, m3, m4, m5, m6, m7, m8, m9, m10, m11, m12, m13⟩ := id hM
  cases wr with
  | none => exact X_told x hR (M_told x m1 m10 (hA _ _ _ ⟨k116, _, _, _, _, _, _, _, _, _, _, _, _, _, _, _, _, XR_md hR (md_0 0), MR_0 0 hM⟩))
  | some g => exact X_told x hR (M_told x m1 m10 (hA _ _ _ ⟨k116, _, _, _, _, _, _, _, _, _, _, _, _, _, _, _, _, XR_md hR (md_0 0), MR_0 0 hM⟩))
theorem LS_fault (h : INV I J P K n) (hA : ∀ v I' J', INV I' J' P K n → AK v v I' J') : ckI G (d + 100) mX11_fault [.ref 0] I J P K n (fun v1 I1 J1 => ckI G (d + 100) mX12_fault [.ref 91] I1 J1 P K n (fun v2 I2 J2 => AK v1 v2 I2 J2)) := by
  obtain ⟨k116, tl, tp, f, hd, nm, so, c, us, bm, row, ask, st, wr, tx, sn, im, hR, hM⟩ := h
  obtain ⟨hX, hn, hL, cs, nx, hh⟩ := id hR
  obtain ⟨a, l, p8, e0, oa, oL, S, L, N, C, w⟩ := XH_sC hh
  obtain ⟨m1, m2, m3, m4, m5, m6, m7, m8, m9, m10, m11, m12, m13⟩ := id hM
  refine C_fault hX ?_
  rw [hL.2.1]
  exact M_fault m1 m3 (hA _ _ _ ⟨k116, _, _, _, _, _, _, _, _, _, _, _, _, _, _, _, _, XR_md hR (md_0 0), MR_0 0 hM⟩)
theorem LS_ask (h : INV I J P K n) (hA : ∀ v I' J', INV I' J' P K n → AK v v I' J') : ckI G (d + 100) mX11_ask [.ref 0] I J P K n (fun v1 I1 J1 => ckI G (d + 100) mX12_ask [.ref 91] I1 J1 P K n (fun v2 I2 J2 => AK v1 v2 I2 J2)) := by
  obtain ⟨k116, tl, tp, f, hd, nm, so, c, us, bm, row, ask, st, wr, tx, sn, im, hR, hM⟩ := h
  obtain ⟨hX, hn, hL, cs, nx, hh⟩ := id hR
  obtain ⟨a, l, p8, e0, oa, oL, S, L, N, C, w⟩ := XH_sC hh
  obtain ⟨m1, m2, m3, m4, m5, m6, m7, m8, m9, m10, m11, m12, m13⟩ := id hM
  refine C_ask hX ?_
  rw [hL.2.2.2.1.1]
  exact M_ask m1 m8 (hA _ _ _ ⟨k116, _, _, _, _, _, _, _, _, _, _, _, _, _, _, _, _, XR_md hR (md_0 0), MR_0 0 hM⟩)
theorem LS_stored (h : INV I J P K n) (hA : ∀ v I' J', INV I' J' P K n → AK v v I' J') : ckI G (d + 100) mX11_stored [.ref 0] I J P K n (fun v1 I1 J1 => ckI G (d + 100) mX12_stored [.ref 91] I1 J1 P K n (fun v2 I2 J2 => AK v1 v2 I2 J2)) := by
  obtain ⟨k116, tl, tp, f, hd, nm, so, c, us, bm, row, ask, st, wr, tx, sn, im, hR, hM⟩ := h
  obtain ⟨hX, hn, hL, cs, nx, hh⟩ := id hR
  obtain ⟨a, l, p8, e0, oa, oL, S, L, N, C, w⟩ := XH_sC hh
  obtain ⟨m1, m2, m3, m4, m5, m6, m7, m8, m9, m10, m11, m12, m13⟩ := id hM
  refine C_stored hX ?_
  rw [hL.2.2.2.1.2]
  exact M_stored m1 m9 (hA _ _ _ ⟨k116, _, _, _, _, _, _, _, _, _, _, _, _, _, _, _, _, XR_md hR (md_0 0), MR_0 0 hM⟩)
theorem LS_byteAt (x : Int32) (h : INV I J P K n) (hA : ∀ v I' J', INV I' J' P K n → AK v v I' J') : ckI G (d + 100) mX11_byteAt [.ref 0, .int x] I J P K n (fun v1 I1 J1 => ckI G (d + 100) mX12_byteAt [.ref 91, .int x] I1 J1 P K n (fun v2 I2 J2 => AK v1 v2 I2 J2)) := by
  obtain ⟨k116, tl, tp, f, hd, nm, so, c, us, bm, row, ask, st, wr, tx, sn, im, hR, hM⟩ := h
  obtain ⟨hX, hn, hL, cs, nx, hh⟩ := id hR
  obtain ⟨a, l, p8, e0, oa, oL, S, L, N, C, w⟩ := XH_sC hh
  obtain ⟨m1, m2, m3, m4, m5, m6, m7, m8, m9, m10, m11, m12, m13⟩ := id hM
  have t40 := hL.2.2.2.2.2.1.2
  exact C_byteAt x hX hL.2.2.2.2.2.1.1 t40 (M_byteAt (tt := fun k => tx.getD k 0) x m1 (by omega) m11.1 m11.2 (hA _ _ _ ⟨k116, _, _, _, _, _, _, _, _, _, _, _, _, _, _, _, _, XR_md hR (md_0 0), MR_0 0 hM⟩))
theorem LS_said (x : Int32) (h : INV I J P K n) (hA : ∀ v I' J', INV I' J' P K n → AK v v I' J') : ckI G (d + 100) mX11_said [.ref 0, .int x] I J P K n (fun v1 I1 J1 => ckI G (d + 100) mX12_said [.ref 91, .int x] I1 J1 P K n (fun v2 I2 J2 => AK v1 v2 I2 J2)) := by
  obtain ⟨k116, tl, tp, f, hd, nm, so, c, us, bm, row, ask, st, wr, tx, sn, im, hR, hM⟩ := h
  obtain ⟨hX, hn, hL, cs, nx, hh⟩ := id hR
  obtain ⟨a, l, p8, e0, oa, oL, S, L, N, C, w⟩ := XH_sC hh
  obtain ⟨m1, m2, m3, m4, m5, m6, m7, m8, m9, m10, m11, m12, m13⟩ := id hM
  have s6 : sy6 I P K (P 0 10) sn := by
    have := hh.2.2.2.2.2.2.1
    cases sn with
    | none => exact this
    | some L0 =>
      obtain ⟨s, e1, e2, -, e3⟩ := this
      exact ⟨s, e1, e2, e3⟩
  exact C_said x hX p8 S L C w s6 (M_said x m1 m4 w m12 (hA _ _ _ ⟨k116, _, _, _, _, _, _, _, _, _, _, _, _, _, _, _, _, XR_md hR (md_0 0), MR_0 0 hM⟩))
theorem LS_feed (p q x y z : Int32) (h : INV I J P K n) (hA : ∀ v I' J', INV I' J' P K n → AK v v I' J') : ckI G (d + 100) mX11_feed [.ref 0, .int p, .int q, .int x, .int y, .int z] I J P K n (fun v1 I1 J1 => ckI G (d + 100) mX12_feed [.ref 91, .int p, .int q, .int x, .int y, .int z] I1 J1 P K n (fun v2 I2 J2 => AK v1 v2 I2 J2)) := by
  obtain ⟨k116, tl, tp, f, hd, nm, so, c, us, bm, row, ask, st, wr, tx, sn, im, hR, hM⟩ := h
  obtain ⟨hX, hn, hL, cs, nx, hh⟩ := id hR
  obtain ⟨a, l, p8, e0, oa, oL, S, L, N, C, w⟩ := XH_sC hh
  obtain ⟨m1, m2, m3, m4, m5, m6, m7, m8, m9, m10, m11, m12, m13⟩ := id hM
  exact X_feed p q x y z hR (fun I1 r s => Y_feed p q x y z (MR_cl hn hM s) (fun I2 J2 m2 d2 => hA _ _ _ ⟨k116, _, _, _, _, _, _, _, _, _, _, _, _, _, _, _, _, XR_md r d2, m2⟩))
theorem LS_end (x : Int32) (h : INV I J P K n) (hA : ∀ v I' J', INV I' J' P K n → AK v v I' J') : ckI G (d + 100) mX11_end [.ref 0, .int x] I J P K n (fun v1 I1 J1 => ckI G (d + 100) mX12_end [.ref 91, .int x] I1 J1 P K n (fun v2 I2 J2 => AK v1 v2 I2 J2)) := by
  obtain ⟨k116, tl, tp, f, hd, nm, so, c, us, bm, row, ask, st, wr, tx, sn, im, hR, hM⟩ := h
  obtain ⟨hX, hn, hL, cs, nx, hh⟩ := id hR
  obtain ⟨a, l, p8, e0, oa, oL, S, L, N, C, w⟩ := XH_sC hh
  obtain ⟨m1, m2, m3, m4, m5, m6, m7, m8, m9, m10, m11, m12, m13⟩ := id hM
  exact X_end x hR (fun I1 r s => Y_end x (MR_cl hn hM s) (fun I2 J2 m2 d2 => hA _ _ _ ⟨k116, _, _, _, _, _, _, _, _, _, _, _, _, _, _, _, _, XR_md r d2, m2⟩))
theorem LS_blend (x y z : Int32) (h : INV I J P K n) (hA : ∀ v I' J', INV I' J' P K n → AK v v I' J') : ckI G (d + 100) mX11_blend [.ref 0, .int x, .int y, .int z] I J P K n (fun v1 I1 J1 => ckI G (d + 100) mX12_blend [.ref 91, .int x, .int y, .int z] I1 J1 P K n (fun v2 I2 J2 => AK v1 v2 I2 J2)) := by
  obtain ⟨k116, tl, tp, f, hd, nm, so, c, us, bm, row, ask, st, wr, tx, sn, im, hR, hM⟩ := h
  obtain ⟨hX, hn, hL, cs, nx, hh⟩ := id hR
  obtain ⟨a, l, p8, e0, oa, oL, S, L, N, C, w⟩ := XH_sC hh
  obtain ⟨m1, m2, m3, m4, m5, m6, m7, m8, m9, m10, m11, m12, m13⟩ := id hM
  exact X_blend x y z hR (fun I1 r s => Y_blend x y z w (MR_cl hn hM s) (fun I2 J2 m2 d2 => hA _ _ _ ⟨k116, _, _, _, _, _, _, _, _, _, _, _, _, _, _, _, _, XR_md r d2, m2⟩))
theorem LS_which (h : INV I J P K n) (hA : ∀ v I' J', INV I' J' P K n → AK v v I' J') : ckI G (d + 100) mX11_which [.ref 0] I J P K n (fun v1 I1 J1 => ckI G (d + 100) mX12_which [.ref 91] I1 J1 P K n (fun v2 I2 J2 => AK v1 v2 I2 J2)) := by
  obtain ⟨k116, tl, tp, f, hd, nm, so, c, us, bm, row, ask, st, wr, tx, sn, im, hR, hM⟩ := h
  obtain ⟨hX, hn, hL, cs, nx, hh⟩ := id hR
  obtain ⟨a, l, p8, e0, oa, oL, S, L, N, C, w⟩ := XH_sC hh
  obtain ⟨m1, m2, m3, m4, m5, m6, m7, m8, m9, m10, m11, m12, m13⟩ := id hM
  exact X_which  hR (fun I1 r s => Y_which  w (MR_cl hn hM s) (fun I2 J2 m2 d2 => hA _ _ _ ⟨k116, _, _, _, _, _, _, _, _, _, _, _, _, _, _, _, _, XR_md r d2, m2⟩))
theorem LS_store (x y : Int32) (h : INV I J P K n) (hA : ∀ v I' J', INV I' J' P K n → AK v v I' J') : ckI G (d + 100) mX11_store [.ref 0, .int x, .int y] I J P K n (fun v1 I1 J1 => ckI G (d + 100) mX12_store [.ref 91, .int x, .int y] I1 J1 P K n (fun v2 I2 J2 => AK v1 v2 I2 J2)) := by
  obtain ⟨k116, tl, tp, f, hd, nm, so, c, us, bm, row, ask, st, wr, tx, sn, im, hR, hM⟩ := h
  obtain ⟨hX, hn, hL, cs, nx, hh⟩ := id hR
  obtain ⟨a, l, p8, e0, oa, oL, S, L, N, C, w⟩ := XH_sC hh
  obtain ⟨m1, m2, m3, m4, m5, m6, m7, m8, m9, m10, m11, m12, m13⟩ := id hM
  exact X_store x y hR (fun I1 r s => Y_store x y w (MR_cl hn hM s) (fun I2 J2 m2 d2 => hA _ _ _ ⟨k116, _, _, _, _, _, _, _, _, _, _, _, _, _, _, _, _, XR_md r d2, m2⟩))
theorem LS_tag (x : Int32) (h : INV I J P K n) (hA : ∀ v I' J', INV I' J' P K n → AK v v I' J') : ckI G (d + 100) mX11_tag [.ref 0, .int x] I J P K n (fun v1 I1 J1 => ckI G (d + 100) mX12_tag [.ref 91, .int x] I1 J1 P K n (fun v2 I2 J2 => AK v1 v2 I2 J2)) := by
  obtain ⟨k116, tl, tp, f, hd, nm, so, c, us, bm, row, ask, st, wr, tx, sn, im, hR, hM⟩ := h
  obtain ⟨hX, hn, hL, cs, nx, hh⟩ := id hR
  obtain ⟨a, l, p8, e0, oa, oL, S, L, N, C, w⟩ := XH_sC hh
  obtain ⟨m1, m2, m3, m4, m5, m6, m7, m8, m9, m10, m11, m12, m13⟩ := id hM
  exact X_tag x hR (fun I1 r s => Y_tag x w (MR_cl hn hM s) (fun I2 J2 m2 d2 => hA _ _ _ ⟨k116, _, _, _, _, _, _, _, _, _, _, _, _, _, _, _, _, XR_md r d2, m2⟩))
theorem LS_draw (x z : Int32) (bu : bud K n) (h : INV I J P K n) (hA : ∀ v I' J' P' K' n', INV I' J' P' K' n' → grw K K' n n' → A v v I' J' P' K' n') : cqI G (d + 100) mX11_draw [.ref 0, .int x, .int z] I J P K n (fun v1 I1 J1 P1 K1 n1 => ckI G (d + 100) mX12_draw [.ref 91, .int x, .int z] I1 J1 P1 K1 n1 (fun v2 I2 J2 => A v1 v2 I2 J2 P1 K1 n1)) := by
  obtain ⟨k116, tl, tp, f, hd, nm, so, c, us, bm, row, ask, st, wr, tx, sn, im, hR, hM⟩ := h
  obtain ⟨hX, hn, hL, cs, nx, hh⟩ := id hR
  obtain ⟨a, l, p8, e0, oa, oL, S, L, N, C, w⟩ := XH_sC hh
  obtain ⟨m1, m2, m3, m4, m5, m6, m7, m8, m9, m10, m11, m12, m13⟩ := id hM
  exact X_draw x z bu hR (fun I1 J1 P1 K1 n1 r s => Y_draw x z w (MR_cl hn hM s) (fun I2 J2 m2 d2 => hA _ _ _ _ _ _ ⟨st_K hn k116 s, _, _, _, _, _, _, _, _, _, _, _, _, _, _, _, _, XR_md r d2, m2⟩ (st_g s)))
theorem LS_run (x : Int32) (bu : bud K n) (h : INV I J P K n) (hA : ∀ v I' J' P' K' n', INV I' J' P' K' n' → grw K K' n n' → A v v I' J' P' K' n') : cqI G (d + 100) mX11_run [.ref 0, .int x] I J P K n (fun v1 I1 J1 P1 K1 n1 => ckI G (d + 100) mX12_run [.ref 91, .int x] I1 J1 P1 K1 n1 (fun v2 I2 J2 => A v1 v2 I2 J2 P1 K1 n1)) := by
  obtain ⟨k116, tl, tp, f, hd, nm, so, c, us, bm, row, ask, st, wr, tx, sn, im, hR, hM⟩ := h
  obtain ⟨hX, hn, hL, cs, nx, hh⟩ := id hR
  obtain ⟨a, l, p8, e0, oa, oL, S, L, N, C, w⟩ := XH_sC hh
  obtain ⟨m1, m2, m3, m4, m5, m6, m7, m8, m9, m10, m11, m12, m13⟩ := id hM
  exact X_run x bu hR (fun I1 J1 P1 K1 n1 r s => Y_run x w (MR_cl hn hM s) (fun I2 J2 m2 d2 => hA _ _ _ _ _ _ ⟨st_K hn k116 s, _, _, _, _, _, _, _, _, _, _, _, _, _, _, _, _, XR_md r d2, m2⟩ (st_g s)))
theorem LS_top (bu : bud K n) (h : INV I J P K n) (hA : ∀ v I' J' P' K' n', INV I' J' P' K' n' → grw K K' n n' → A v v I' J' P' K' n') : cqI G (d + 100) mX11_top [.ref 0] I J P K n (fun v1 I1 J1 P1 K1 n1 => ckI G (d + 100) mX12_top [.ref 91] I1 J1 P1 K1 n1 (fun v2 I2 J2 => A v1 v2 I2 J2 P1 K1 n1)) := by
  obtain ⟨k116, tl, tp, f, hd, nm, so, c, us, bm, row, ask, st, wr, tx, sn, im, hR, hM⟩ := h
  obtain ⟨hX, hn, hL, cs, nx, hh⟩ := id hR
  obtain ⟨a, l, p8, e0, oa, oL, S, L, N, C, w⟩ := XH_sC hh
  obtain ⟨m1, m2, m3, m4, m5, m6, m7, m8, m9, m10, m11, m12, m13⟩ := id hM
  exact X_top  bu hR (fun I1 J1 P1 K1 n1 r s => Y_top  w (MR_cl hn hM s) (fun I2 J2 m2 d2 => hA _ _ _ _ _ _ ⟨st_K hn k116 s, _, _, _, _, _, _, _, _, _, _, _, _, _, _, _, _, XR_md r d2, m2⟩ (st_g s)))
theorem LS_tip (x y z : Int32) (bu : bud K n) (h : INV I J P K n) (hA : ∀ v I' J' P' K' n', INV I' J' P' K' n' → grw K K' n n' → A v v I' J' P' K' n') : cqI G (d + 100) mX11_tip [.ref 0, .int x, .int y, .int z] I J P K n (fun v1 I1 J1 P1 K1 n1 => ckI G (d + 100) mX12_tip [.ref 91, .int x, .int y, .int z] I1 J1 P1 K1 n1 (fun v2 I2 J2 => A v1 v2 I2 J2 P1 K1 n1)) := by
  obtain ⟨k116, tl, tp, f, hd, nm, so, c, us, bm, row, ask, st, wr, tx, sn, im, hR, hM⟩ := h
  obtain ⟨hX, hn, hL, cs, nx, hh⟩ := id hR
  obtain ⟨a, l, p8, e0, oa, oL, S, L, N, C, w⟩ := XH_sC hh
  obtain ⟨m1, m2, m3, m4, m5, m6, m7, m8, m9, m10, m11, m12, m13⟩ := id hM
  exact X_tip x y z bu hR (fun I1 J1 P1 K1 n1 r s => Y_tip x y z w (MR_cl hn hM s) (fun I2 J2 m2 d2 => hA _ _ _ _ _ _ ⟨st_K hn k116 s, _, _, _, _, _, _, _, _, _, _, _, _, _, _, _, _, XR_md r d2, m2⟩ (st_g s)))
theorem LS_years (x : Int32) (bu : bud K n) (h : INV I J P K n) (hA : ∀ v I' J' P' K' n', INV I' J' P' K' n' → grw K K' n n' → A v v I' J' P' K' n') : cqI G (d + 100) mX11_years [.ref 0, .int x] I J P K n (fun v1 I1 J1 P1 K1 n1 => ckI G (d + 100) mX12_years [.ref 91, .int x] I1 J1 P1 K1 n1 (fun v2 I2 J2 => A v1 v2 I2 J2 P1 K1 n1)) := by
  obtain ⟨k116, tl, tp, f, hd, nm, so, c, us, bm, row, ask, st, wr, tx, sn, im, hR, hM⟩ := h
  obtain ⟨hX, hn, hL, cs, nx, hh⟩ := id hR
  obtain ⟨a, l, p8, e0, oa, oL, S, L, N, C, w⟩ := XH_sC hh
  obtain ⟨m1, m2, m3, m4, m5, m6, m7, m8, m9, m10, m11, m12, m13⟩ := id hM
  exact X_years x bu hR (fun I1 J1 P1 K1 n1 r s => Y_years x w (MR_cl hn hM s) (fun I2 J2 m2 d2 => hA _ _ _ _ _ _ ⟨st_K hn k116 s, _, _, _, _, _, _, _, _, _, _, _, _, _, _, _, _, XR_md r d2, m2⟩ (st_g s)))
theorem LS_undo (bu : bud K n) (h : INV I J P K n) (hA : ∀ v I' J' P' K' n', INV I' J' P' K' n' → grw K K' n n' → A v v I' J' P' K' n') : cqI G (d + 100) mX11_undo [.ref 0] I J P K n (fun v1 I1 J1 P1 K1 n1 => ckI G (d + 100) mX12_undo [.ref 91] I1 J1 P1 K1 n1 (fun v2 I2 J2 => A v1 v2 I2 J2 P1 K1 n1)) := by
  obtain ⟨k116, tl, tp, f, hd, nm, so, c, us, bm, row, ask, st, wr, tx, sn, im, hR, hM⟩ := h
  obtain ⟨hX, hn, hL, cs, nx, hh⟩ := id hR
  obtain ⟨a, l, p8, e0, oa, oL, S, L, N, C, w⟩ := XH_sC hh
  obtain ⟨m1, m2, m3, m4, m5, m6, m7, m8, m9, m10, m11, m12, m13⟩ := id hM
  exact X_undo  hR (fun I1 J1 P1 K1 n1 r s => Y_undo  (MR_cl hn hM s) (fun I2 J2 m2 d2 => hA _ _ _ _ _ _ ⟨st_K hn k116 s, _, _, _, _, _, _, _, _, _, _, _, _, _, _, _, _, XR_md r d2, m2⟩ (st_g s)))
theorem LS_ripe (x y : Int32) (bu : bud K n) (h : INV I J P K n) (hA : ∀ v I' J' P' K' n', INV I' J' P' K' n' → grw K K' n n' → A v v I' J' P' K' n') : cqI G (d + 100) mX11_ripe [.ref 0, .int x, .int y] I J P K n (fun v1 I1 J1 P1 K1 n1 => ckI G (d + 100) mX12_ripe [.ref 91, .int x, .int y] I1 J1 P1 K1 n1 (fun v2 I2 J2 => A v1 v2 I2 J2 P1 K1 n1)) := by
  obtain ⟨k116, tl, tp, f, hd, nm, so, c, us, bm, row, ask, st, wr, tx, sn, im, hR, hM⟩ := h
  obtain ⟨hX, hn, hL, cs, nx, hh⟩ := id hR
  obtain ⟨a, l, p8, e0, oa, oL, S, L, N, C, w⟩ := XH_sC hh
  obtain ⟨m1, m2, m3, m4, m5, m6, m7, m8, m9, m10, m11, m12, m13⟩ := id hM
  exact X_ripe x y hR (fun I1 J1 P1 K1 n1 r s => Y_ripe x y w (MR_cl hn hM s) (fun I2 J2 m2 d2 => hA _ _ _ _ _ _ ⟨st_K hn k116 s, _, _, _, _, _, _, _, _, _, _, _, _, _, _, _, _, XR_md r d2, m2⟩ (st_g s)))
theorem LS_plan (x y : Int32) (bu : bud K n) (h : INV I J P K n) (hA : ∀ v I' J' P' K' n', INV I' J' P' K' n' → grw K K' n n' → A v v I' J' P' K' n') : cqI G (d + 100) mX11_plan [.ref 0, .int x, .int y] I J P K n (fun v1 I1 J1 P1 K1 n1 => ckI G (d + 100) mX12_plan [.ref 91, .int x, .int y] I1 J1 P1 K1 n1 (fun v2 I2 J2 => A v1 v2 I2 J2 P1 K1 n1)) := by
  obtain ⟨k116, tl, tp, f, hd, nm, so, c, us, bm, row, ask, st, wr, tx, sn, im, hR, hM⟩ := h
  obtain ⟨hX, hn, hL, cs, nx, hh⟩ := id hR
  obtain ⟨a, l, p8, e0, oa, oL, S, L, N, C, w⟩ := XH_sC hh
  obtain ⟨m1, m2, m3, m4, m5, m6, m7, m8, m9, m10, m11, m12, m13⟩ := id hM
  exact X_plan x y hR (fun I1 J1 P1 K1 n1 r s => Y_plan x y w (MR_cl hn hM s) (fun I2 J2 m2 d2 => hA _ _ _ _ _ _ ⟨st_K hn k116 s, _, _, _, _, _, _, _, _, _, _, _, _, _, _, _, _, XR_md r d2, m2⟩ (st_g s)))
theorem LS_odds (x y z : Int32) (bu : bud K n) (h : INV I J P K n) (hA : ∀ v I' J' P' K' n', INV I' J' P' K' n' → grw K K' n n' → A v v I' J' P' K' n') : cqI G (d + 100) mX11_odds [.ref 0, .int x, .int y, .int z] I J P K n (fun v1 I1 J1 P1 K1 n1 => ckI G (d + 100) mX12_odds [.ref 91, .int x, .int y, .int z] I1 J1 P1 K1 n1 (fun v2 I2 J2 => A v1 v2 I2 J2 P1 K1 n1)) := by
  obtain ⟨k116, tl, tp, f, hd, nm, so, c, us, bm, row, ask, st, wr, tx, sn, im, hR, hM⟩ := h
  obtain ⟨hX, hn, hL, cs, nx, hh⟩ := id hR
  obtain ⟨a, l, p8, e0, oa, oL, S, L, N, C, w⟩ := XH_sC hh
  obtain ⟨m1, m2, m3, m4, m5, m6, m7, m8, m9, m10, m11, m12, m13⟩ := id hM
  obtain ⟨nx', hnx⟩ : ∃ nx' : Int32 → Int32, ∀ s, nx' s = s * 1103515245 + 12345 := ⟨fun s => s * 1103515245 + 12345, fun _ => rfl⟩
  exact X_odds hnx x y z hR (fun I1 J1 P1 K1 n1 r s => Y_odds hnx x y z w (MR_cl hn hM s) (fun I2 J2 m2 d2 => hA _ _ _ _ _ _ ⟨st_K hn k116 s, _, _, _, _, _, _, _, _, _, _, _, _, _, _, _, _, XR_md r d2, m2⟩ (st_g s)))
theorem LS_drawn (x y : Int32) (bu : bud K n) (h : INV I J P K n) (hA : ∀ v I' J' P' K' n', INV I' J' P' K' n' → grw K K' n n' → A v v I' J' P' K' n') : cqI G (d + 100) mX11_drawn [.ref 0, .int x, .int y] I J P K n (fun v1 I1 J1 P1 K1 n1 => ckI G (d + 100) mX12_drawn [.ref 91, .int x, .int y] I1 J1 P1 K1 n1 (fun v2 I2 J2 => A v1 v2 I2 J2 P1 K1 n1)) := by
  obtain ⟨k116, tl, tp, f, hd, nm, so, c, us, bm, row, ask, st, wr, tx, sn, im, hR, hM⟩ := h
  obtain ⟨hX, hn, hL, cs, nx, hh⟩ := id hR
  obtain ⟨a, l, p8, e0, oa, oL, S, L, N, C, w⟩ := XH_sC hh
  obtain ⟨m1, m2, m3, m4, m5, m6, m7, m8, m9, m10, m11, m12, m13⟩ := id hM
  obtain ⟨nx', hnx⟩ : ∃ nx' : Int32 → Int32, ∀ s, nx' s = s * 1103515245 + 12345 := ⟨fun s => s * 1103515245 + 12345, fun _ => rfl⟩
  have hy := w.2.2.2.2.2.2.1
  exact X_drawn hnx x y bu hR (fun m hm => (pkYs_inv (p := (y, so)) w (m := 39 - so 0) (by show so 0 + _ ≤ 39; omega) m hm).1) (fun I1 J1 P1 K1 n1 r s => Y_drawn hnx x y w (MR_cl hn hM s) (fun I2 J2 m2 d2 => hA _ _ _ _ _ _ ⟨st_K hn k116 s, _, _, _, _, _, _, _, _, _, _, _, _, _, _, _, _, XR_md r d2, m2⟩ (st_g s)))
theorem LS_house (bu : bud K n) (h : INV I J P K n) (hA : ∀ v I' J' P' K' n', INV I' J' P' K' n' → grw K K' n n' → A v v I' J' P' K' n') : cqI G (d + 100) mX11_house [.ref 0] I J P K n (fun v1 I1 J1 P1 K1 n1 => ckI G (d + 100) mX12_house [.ref 91] I1 J1 P1 K1 n1 (fun v2 I2 J2 => A v1 v2 I2 J2 P1 K1 n1)) := by
  obtain ⟨k116, tl, tp, f, hd, nm, so, c, us, bm, row, ask, st, wr, tx, sn, im, hR, hM⟩ := h
  obtain ⟨hX, hn, hL, cs, nx, hh⟩ := id hR
  obtain ⟨a, l, p8, e0, oa, oL, S, L, N, C, w⟩ := XH_sC hh
  obtain ⟨m1, m2, m3, m4, m5, m6, m7, m8, m9, m10, m11, m12, m13⟩ := id hM
  refine X_house bu hR ?_
  cases e : pHouse tp tl with
  | error p =>
    intro I1 J1 P1 K1 n1 r s
    refine Y_house (MR_cl hn hM s) ?_
    rw [e]
    exact (fun I2 J2 m2 d2 => hA _ _ _ _ _ _ ⟨st_K hn k116 s, _, _, _, _, _, _, _, _, _, _, _, _, _, _, _, _, XR_md r d2, m2⟩ (st_g s))
  | ok p =>
    intro I1 J1 P1 K1 n1 r s
    refine Y_house (MR_cl hn hM s) ?_
    rw [e]
    exact (fun I2 J2 m2 d2 => hA _ _ _ _ _ _ ⟨st_K hn k116 s, _, _, _, _, _, _, _, _, _, _, _, _, _, _, _, _, XR_md r d2, m2⟩ (st_g s))
theorem LS_sentence (bu : bud K n) (h : INV I J P K n) (hA : ∀ v I' J' P' K' n', INV I' J' P' K' n' → grw K K' n n' → A v v I' J' P' K' n') : cqI G (d + 100) mX11_sentence [.ref 0] I J P K n (fun v1 I1 J1 P1 K1 n1 => ckI G (d + 100) mX12_sentence [.ref 91] I1 J1 P1 K1 n1 (fun v2 I2 J2 => A v1 v2 I2 J2 P1 K1 n1)) := by
  obtain ⟨k116, tl, tp, f, hd, nm, so, c, us, bm, row, ask, st, wr, tx, sn, im, hR, hM⟩ := h
  obtain ⟨hX, hn, hL, cs, nx, hh⟩ := id hR
  obtain ⟨a, l, p8, e0, oa, oL, S, L, N, C, w⟩ := XH_sC hh
  obtain ⟨m1, m2, m3, m4, m5, m6, m7, m8, m9, m10, m11, m12, m13⟩ := id hM
  refine X_sentence bu hR ?_
  cases e : pSen hd nm tp tl with
  | error p =>
    intro I1 J1 P1 K1 n1 r s
    refine Y_sentence w (MR_cl hn hM s) ?_
    rw [e]
    exact (fun I2 J2 m2 d2 => hA _ _ _ _ _ _ ⟨st_K hn k116 s, _, _, _, _, _, _, _, _, _, _, _, _, _, _, _, _, XR_md r d2, m2⟩ (st_g s))
  | ok p =>
    intro I1 J1 P1 K1 n1 r s
    refine Y_sentence w (MR_cl hn hM s) ?_
    rw [e]
    exact (fun I2 J2 m2 d2 => hA _ _ _ _ _ _ ⟨st_K hn k116 s, _, _, _, _, _, _, _, _, _, _, _, _, _, _, _, _, XR_md r d2, m2⟩ (st_g s))
theorem LS_book (x : Int32) (bu : bud K n) (h : INV I J P K n) (hA : ∀ v I' J' P' K' n', INV I' J' P' K' n' → grw K K' n n' → A v v I' J' P' K' n') : cqI G (d + 100) mX11_book [.ref 0, .int x] I J P K n (fun v1 I1 J1 P1 K1 n1 => ckI G (d + 100) mX12_book [.ref 91, .int x] I1 J1 P1 K1 n1 (fun v2 I2 J2 => A v1 v2 I2 J2 P1 K1 n1)) := by
  obtain ⟨k116, tl, tp, f, hd, nm, so, c, us, bm, row, ask, st, wr, tx, sn, im, hR, hM⟩ := h
  obtain ⟨hX, hn, hL, cs, nx, hh⟩ := id hR
  obtain ⟨a, l, p8, e0, oa, oL, S, L, N, C, w⟩ := XH_sC hh
  obtain ⟨m1, m2, m3, m4, m5, m6, m7, m8, m9, m10, m11, m12, m13⟩ := id hM
  refine X_book x bu hR (fun e0 => Y_book x w hM (fun _ => hA _ _ _ _ _ _ ⟨k116, _, _, _, _, _, _, _, _, _, _, _, _, _, _, _, _, XR_md hR (md_0 0), MR_0 0 hM⟩ (grw_rf K n)) (fun lv hlv ex => absurd ex (inB_f e0 hlv (by decide)))) (fun lv hlv ex => ?_)
  have e1 : inB x 2 = true := by rw [ex]; exact inB_nI hlv (by decide)
  have un : ∀ lv', lv' < 2 → x = nI lv' → lv' = lv := fun lv' h1 h2 => (nI_eq (by omega) (by omega)).mp (h2.symm.trans ex)
  cases e : pBook hd nm tp tl with
  | error p =>
    intro I1 J1 P1 K1 n1 r s
    refine Y_book x w (MR_cl hn hM s) (fun q => by rw [e1] at q; cases q) (fun lv' h1 h2 => ?_)
    rw [un lv' h1 h2, e]
    exact (fun I2 J2 m2 d2 => hA _ _ _ _ _ _ ⟨st_K hn k116 s, _, _, _, _, _, _, _, _, _, _, _, _, _, _, _, _, XR_md r d2, m2⟩ (st_g s))
  | ok p =>
    intro I1 J1 P1 K1 n1 r s
    refine Y_book x w (MR_cl hn hM s) (fun q => by rw [e1] at q; cases q) (fun lv' h1 h2 => ?_)
    rw [un lv' h1 h2, e]
    exact (fun I2 J2 m2 d2 => hA _ _ _ _ _ _ ⟨st_K hn k116 s, _, _, _, _, _, _, _, _, _, _, _, _, _, _, _, _, XR_md r d2, m2⟩ (st_g s))
theorem LS_image (x : Int32) (bu : bud K n) (h : INV I J P K n) (hA : ∀ v I' J' P' K' n', INV I' J' P' K' n' → grw K K' n n' → A v v I' J' P' K' n') : cqI G (d + 100) mX11_image [.ref 0, .int x] I J P K n (fun v1 I1 J1 P1 K1 n1 => ckI G (d + 100) mX12_image [.ref 91, .int x] I1 J1 P1 K1 n1 (fun v2 I2 J2 => A v1 v2 I2 J2 P1 K1 n1)) := by
  obtain ⟨k116, tl, tp, f, hd, nm, so, c, us, bm, row, ask, st, wr, tx, sn, im, hR, hM⟩ := h
  obtain ⟨hX, hn, hL, cs, nx, hh⟩ := id hR
  obtain ⟨a, l, p8, e0, oa, oL, S, L, N, C, w⟩ := XH_sC hh
  obtain ⟨m1, m2, m3, m4, m5, m6, m7, m8, m9, m10, m11, m12, m13⟩ := id hM
  have wi := XR_wi hR
  refine X_image x bu hR (fun e0 => Y_image x w wi hM (fun _ => hA _ _ _ _ _ _ ⟨k116, _, _, _, _, _, _, _, _, _, _, _, _, _, _, _, _, XR_md hR (md_0 0), MR_0 0 hM⟩ (grw_rf K n)) (fun k hk ex => absurd ex (inB_f e0 hk (by decide)))) (fun k hk ex I1 J1 P1 K1 n1 r s => ?_)
  have e1 : inB x 2 = true := by rw [ex]; exact inB_nI hk (by decide)
  have un : ∀ lv', lv' < 2 → x = nI lv' → lv' = k := fun lv' h1 h2 => (nI_eq (by omega) (by omega)).mp (h2.symm.trans ex)
  refine Y_image x w wi (MR_cl hn hM s) (fun q => by rw [e1] at q; cases q) (fun k' h1 h2 => ?_)
  rw [un k' h1 h2]
  exact (fun I2 J2 m2 d2 => hA _ _ _ _ _ _ ⟨st_K hn k116 s, _, _, _, _, _, _, _, _, _, _, _, _, _, _, _, _, XR_md r d2, m2⟩ (st_g s))
theorem LS_restore (x : Int32) (h : INV I J P K n) (hA : ∀ v I' J' P' K' n', INV I' J' P' K' n' → grw K K' n n' → A v v I' J' P' K' n') : cqI G (d + 100) mX11_restore [.ref 0, .int x] I J P K n (fun v1 I1 J1 P1 K1 n1 => ckI G (d + 100) mX12_restore [.ref 91, .int x] I1 J1 P1 K1 n1 (fun v2 I2 J2 => A v1 v2 I2 J2 P1 K1 n1)) := by
  obtain ⟨k116, tl, tp, f, hd, nm, so, c, us, bm, row, ask, st, wr, tx, sn, im, hR, hM⟩ := h
  obtain ⟨hX, hn, hL, cs, nx, hh⟩ := id hR
  obtain ⟨a, l, p8, e0, oa, oL, S, L, N, C, w⟩ := XH_sC hh
  obtain ⟨m1, m2, m3, m4, m5, m6, m7, m8, m9, m10, m11, m12, m13⟩ := id hM
  have wi := XR_wi hR
  refine X_restore x hR (fun e0 => Y_restore x wi hM (fun _ => hA _ _ _ _ _ _ ⟨k116, _, _, _, _, _, _, _, _, _, _, _, _, _, _, _, _, XR_md hR (md_0 0), MR_0 0 hM⟩ (grw_rf K n)) (fun k q hk ex eq => ?_)) (fun k q hk ex ek I1 J1 P1 K1 n1 r s => ?_)
  · exfalso
    rcases e0 with e0 | ⟨k2, hk2, ex2, en⟩
    · exact inB_f e0 hk (by decide) ex
    · have : k2 = k := (nI_eq (by omega) (by omega)).mp (ex2.symm.trans ex)
      subst this
      rw [en] at eq
      cases eq
  · have e1 : inB x 2 = true := by rw [ex]; exact inB_nI hk (by decide)
    have un : ∀ lv', lv' < 2 → x = nI lv' → lv' = k := fun lv' h1 h2 => (nI_eq (by omega) (by omega)).mp (h2.symm.trans ex)
    refine Y_restore x wi (MR_cl hn hM s) (fun q => ?_) (fun k' q' h1 h2 h3 => ?_)
    · exfalso
      rcases q with q | ⟨k2, hk2, ex2, en⟩
      · rw [e1] at q; cases q
      · rw [un k2 hk2 ex2, ek] at en; cases en
    · rw [un k' h1 h2, ek] at h3
      cases h3
      exact (fun I2 J2 m2 d2 => hA _ _ _ _ _ _ ⟨st_K hn k116 s, _, _, _, _, _, _, _, _, _, _, _, _, _, _, _, _, XR_md r d2, m2⟩ (st_g s))
end LawS
