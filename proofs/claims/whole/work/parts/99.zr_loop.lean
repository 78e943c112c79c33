/-! the law: its loop -/
section LawL
variable {G : gG} {d : Nat} {I : sI} {J : sJ} {P : sP} {K : sK} {n : Nat} {N : Nat} {xs : Nat → Int32} {i : Nat}
abbrev qOne : gQ := fun r _ _ _ _ _ => r = some (.int 1)
theorem nI_6 (hN : N ≤ 3072) (hi : i ≤ 6000) : (nI N - 6 < nI i) ↔ N < i + 6 := by
  rw [Int32.lt_iff_toInt_lt]
  have e1 : (nI i).toInt = i := nI_toInt (by omega)
  have e2 : (nI N - 6).toInt = (N : Int) - 6 := by
    rw [Int32.toInt_sub, nI_toInt (by omega), show (6 : Int32).toInt = 6 by decide]
    rw [Int.bmod_eq_of_le] <;> omega
  rw [e1, e2]
  omega
theorem LW_one (hl : G.1.stackTraces = false) (hN : N ≤ 3072) (hi : i + 5 < N) (bu : bud K n) (hV : INV I J P K n) (ht : ∀ I' J' P' K' n', INV I' J' P' K' n' → grw K K' n n' → OkS (scS G N xs) G (d + 102) mL_law 1539 (lwL i) [] I' J' P' K' n' qOne) : OkS (scS G N xs) G (d + 102) mL_law 33 (lwL i) [] I J P K n qOne := by
  refine okS_aload_n (k := 0) dL_law_33 rfl (okS_iload dL_law_34 rfl (okS_sld (xs i) dL_law_36 (nI_inN (by omega) (by omega)) (by rw [nI_ck (by omega)]) (okS_bipushV 63 dL_law_37 rfl (okS_iand dL_law_39 ?_))))
  by_cases e0 : xs i &&& 63 = 0
  · exact okS_tswI (off := 176) 216 0 dL_law_40 e0 (by decide) (by decide) (by decide) (LC_feed (d := d + 1) hN hi bu hV ht)
  by_cases e1 : xs i &&& 63 = 1
  · exact okS_tswI (off := 249) 289 1 dL_law_40 e1 (by decide) (by decide) (by decide) (LC_end (d := d + 1) hN hi bu hV ht)
  by_cases e2 : xs i &&& 63 = 2
  · exact okS_tswI (off := 274) 314 2 dL_law_40 e2 (by decide) (by decide) (by decide) (LC_house (d := d + 1) hN hi bu hV ht)
  by_cases e3 : xs i &&& 63 = 3
  · exact okS_tswI (off := 287) 327 3 dL_law_40 e3 (by decide) (by decide) (by decide) (LC_fault (d := d + 1) hN hi bu hV ht)
  by_cases e4 : xs i &&& 63 = 4
  · exact okS_tswI (off := 300) 340 4 dL_law_40 e4 (by decide) (by decide) (by decide) (LC_cask (d := d + 1) hN hi bu hV ht)
  by_cases e5 : xs i &&& 63 = 5
  · exact okS_tswI (off := 337) 377 5 dL_law_40 e5 (by decide) (by decide) (by decide) (LC_litres (d := d) hl hN hi bu hV ht)
  by_cases e6 : xs i &&& 63 = 6
  · exact okS_tswI (off := 405) 445 6 dL_law_40 e6 (by decide) (by decide) (by decide) (LC_age (d := d) hl hN hi bu hV ht)
  by_cases e7 : xs i &&& 63 = 7
  · exact okS_tswI (off := 473) 513 7 dL_law_40 e7 (by decide) (by decide) (by decide) (LC_old (d := d) hl hN hi bu hV ht)
  by_cases e8 : xs i &&& 63 = 8
  · exact okS_tswI (off := 541) 581 8 dL_law_40 e8 (by decide) (by decide) (by decide) (LC_now (d := d + 1) hN hi bu hV ht)
  by_cases e9 : xs i &&& 63 = 9
  · exact okS_tswI (off := 566) 606 9 dL_law_40 e9 (by decide) (by decide) (by decide) (LC_bottle (d := d + 1) hN hi bu hV ht)
  by_cases e10 : xs i &&& 63 = 10
  · exact okS_tswI (off := 591) 631 10 dL_law_40 e10 (by decide) (by decide) (by decide) (LC_draw (d := d + 1) hN hi bu hV ht)
  by_cases e11 : xs i &&& 63 = 11
  · exact okS_tswI (off := 628) 668 11 dL_law_40 e11 (by decide) (by decide) (by decide) (LC_run (d := d + 1) hN hi bu hV ht)
  by_cases e12 : xs i &&& 63 = 12
  · exact okS_tswI (off := 653) 693 12 dL_law_40 e12 (by decide) (by decide) (by decide) (LC_top (d := d + 1) hN hi bu hV ht)
  by_cases e13 : xs i &&& 63 = 13
  · exact okS_tswI (off := 666) 706 13 dL_law_40 e13 (by decide) (by decide) (by decide) (LC_tip (d := d + 1) hN hi bu hV ht)
  by_cases e14 : xs i &&& 63 = 14
  · exact okS_tswI (off := 715) 755 14 dL_law_40 e14 (by decide) (by decide) (by decide) (LC_years (d := d + 1) hN hi bu hV ht)
  by_cases e15 : xs i &&& 63 = 15
  · exact okS_tswI (off := 740) 780 15 dL_law_40 e15 (by decide) (by decide) (by decide) (LC_undo (d := d + 1) hN hi bu hV ht)
  by_cases e16 : xs i &&& 63 = 16
  · exact okS_tswI (off := 753) 793 16 dL_law_40 e16 (by decide) (by decide) (by decide) (LC_blend (d := d + 1) hN hi bu hV ht)
  by_cases e17 : xs i &&& 63 = 17
  · exact okS_tswI (off := 802) 842 17 dL_law_40 e17 (by decide) (by decide) (by decide) (LC_blendAt (d := d + 1) hN hi bu hV ht)
  by_cases e18 : xs i &&& 63 = 18
  · exact okS_tswI (off := 827) 867 18 dL_law_40 e18 (by decide) (by decide) (by decide) (LC_ripe (d := d + 1) hN hi bu hV ht)
  by_cases e19 : xs i &&& 63 = 19
  · exact okS_tswI (off := 864) 904 19 dL_law_40 e19 (by decide) (by decide) (by decide) (LC_plan (d := d + 1) hN hi bu hV ht)
  by_cases e20 : xs i &&& 63 = 20
  · exact okS_tswI (off := 901) 941 20 dL_law_40 e20 (by decide) (by decide) (by decide) (LC_which (d := d + 1) hN hi bu hV ht)
  by_cases e21 : xs i &&& 63 = 21
  · exact okS_tswI (off := 914) 954 21 dL_law_40 e21 (by decide) (by decide) (by decide) (LC_ask (d := d + 1) hN hi bu hV ht)
  by_cases e22 : xs i &&& 63 = 22
  · exact okS_tswI (off := 927) 967 22 dL_law_40 e22 (by decide) (by decide) (by decide) (LC_store (d := d + 1) hN hi bu hV ht)
  by_cases e23 : xs i &&& 63 = 23
  · exact okS_tswI (off := 964) 1004 23 dL_law_40 e23 (by decide) (by decide) (by decide) (LC_stored (d := d + 1) hN hi bu hV ht)
  by_cases e24 : xs i &&& 63 = 24
  · exact okS_tswI (off := 977) 1017 24 dL_law_40 e24 (by decide) (by decide) (by decide) (LC_older (d := d + 1) hN hi bu hV ht)
  by_cases e25 : xs i &&& 63 = 25
  · exact okS_tswI (off := 1002) 1042 25 dL_law_40 e25 (by decide) (by decide) (by decide) (LC_where (d := d + 1) hN hi bu hV ht)
  by_cases e26 : xs i &&& 63 = 26
  · exact okS_tswI (off := 1027) 1067 26 dL_law_40 e26 (by decide) (by decide) (by decide) (LC_mean (d := d) hl hN hi bu hV ht)
  by_cases e27 : xs i &&& 63 = 27
  · exact okS_tswI (off := 1095) 1135 27 dL_law_40 e27 (by decide) (by decide) (by decide) (LC_part (d := d) hl hN hi bu hV ht)
  by_cases e28 : xs i &&& 63 = 28
  · exact okS_tswI (off := 1163) 1203 28 dL_law_40 e28 (by decide) (by decide) (by decide) (LC_tag (d := d + 1) hN hi bu hV ht)
  by_cases e29 : xs i &&& 63 = 29
  · exact okS_tswI (off := 1188) 1228 29 dL_law_40 e29 (by decide) (by decide) (by decide) (LC_byteAt (d := d + 1) hN hi bu hV ht)
  by_cases e30 : xs i &&& 63 = 30
  · exact okS_tswI (off := 1213) 1253 30 dL_law_40 e30 (by decide) (by decide) (by decide) (LC_drawn (d := d + 1) hN hi bu hV ht)
  by_cases e31 : xs i &&& 63 = 31
  · exact okS_tswI (off := 1250) 1290 31 dL_law_40 e31 (by decide) (by decide) (by decide) (LC_odds (d := d + 1) hN hi bu hV ht)
  by_cases e32 : xs i &&& 63 = 32
  · exact okS_tswI (off := 1299) 1339 32 dL_law_40 e32 (by decide) (by decide) (by decide) (LC_book (d := d + 1) hN hi bu hV ht)
  by_cases e33 : xs i &&& 63 = 33
  · exact okS_tswI (off := 1324) 1364 33 dL_law_40 e33 (by decide) (by decide) (by decide) (LC_told (d := d + 1) hN hi bu hV ht)
  by_cases e34 : xs i &&& 63 = 34
  · exact okS_tswI (off := 1349) 1389 34 dL_law_40 e34 (by decide) (by decide) (by decide) (LC_sentence (d := d + 1) hN hi bu hV ht)
  by_cases e35 : xs i &&& 63 = 35
  · exact okS_tswI (off := 1362) 1402 35 dL_law_40 e35 (by decide) (by decide) (by decide) (LC_said (d := d + 1) hN hi bu hV ht)
  by_cases e36 : xs i &&& 63 = 36
  · exact okS_tswI (off := 1387) 1427 36 dL_law_40 e36 (by decide) (by decide) (by decide) (LC_image (d := d + 1) hN hi bu hV ht)
  by_cases e37 : xs i &&& 63 = 37
  · exact okS_tswI (off := 1412) 1452 37 dL_law_40 e37 (by decide) (by decide) (by decide) (LC_restore (d := d + 1) hN hi bu hV ht)
  by_cases e38 : xs i &&& 63 = 38
  · exact okS_tswI (off := 1437) 1477 38 dL_law_40 e38 (by decide) (by decide) (by decide) (LC_count (d := d + 1) hN hi bu hV ht)
  by_cases e39 : xs i &&& 63 = 39
  · exact okS_tswI (off := 1462) 1502 39 dL_law_40 e39 (by decide) (by decide) (by decide) (LC_scale (d := d + 1) hN hi bu hV ht)
  exact okS_tswD 1539 [0, 1, 2, 3, 4, 5, 6, 7, 8, 9, 10, 11, 12, 13, 14, 15, 16, 17, 18, 19, 20, 21, 22, 23, 24, 25, 26, 27, 28, 29, 30, 31, 32, 33, 34, 35, 36, 37, 38, 39] dL_law_40 (List.forall_mem_cons.mpr ⟨e0, List.forall_mem_cons.mpr ⟨e1, List.forall_mem_cons.mpr ⟨e2, List.forall_mem_cons.mpr ⟨e3, List.forall_mem_cons.mpr ⟨e4, List.forall_mem_cons.mpr ⟨e5, List.forall_mem_cons.mpr ⟨e6, List.forall_mem_cons.mpr ⟨e7, List.forall_mem_cons.mpr ⟨e8, List.forall_mem_cons.mpr ⟨e9, List.forall_mem_cons.mpr ⟨e10, List.forall_mem_cons.mpr ⟨e11, List.forall_mem_cons.mpr ⟨e12, List.forall_mem_cons.mpr ⟨e13, List.forall_mem_cons.mpr ⟨e14, List.forall_mem_cons.mpr ⟨e15, List.forall_mem_cons.mpr ⟨e16, List.forall_mem_cons.mpr ⟨e17, List.forall_mem_cons.mpr ⟨e18, List.forall_mem_cons.mpr ⟨e19, List.forall_mem_cons.mpr ⟨e20, List.forall_mem_cons.mpr ⟨e21, List.forall_mem_cons.mpr ⟨e22, List.forall_mem_cons.mpr ⟨e23, List.forall_mem_cons.mpr ⟨e24, List.forall_mem_cons.mpr ⟨e25, List.forall_mem_cons.mpr ⟨e26, List.forall_mem_cons.mpr ⟨e27, List.forall_mem_cons.mpr ⟨e28, List.forall_mem_cons.mpr ⟨e29, List.forall_mem_cons.mpr ⟨e30, List.forall_mem_cons.mpr ⟨e31, List.forall_mem_cons.mpr ⟨e32, List.forall_mem_cons.mpr ⟨e33, List.forall_mem_cons.mpr ⟨e34, List.forall_mem_cons.mpr ⟨e35, List.forall_mem_cons.mpr ⟨e36, List.forall_mem_cons.mpr ⟨e37, List.forall_mem_cons.mpr ⟨e38, List.forall_mem_cons.mpr ⟨e39, fun _ h => nomatch h⟩⟩⟩⟩⟩⟩⟩⟩⟩⟩⟩⟩⟩⟩⟩⟩⟩⟩⟩⟩⟩⟩⟩⟩⟩⟩⟩⟩⟩⟩⟩⟩⟩⟩⟩⟩⟩⟩⟩⟩) (by decide) (by decide) (ht _ _ _ _ _ hV (grw_rf K n))
theorem LW_loop (hl : G.1.stackTraces = false) (hN : N ≤ 3072) : ∀ (f i : Nat) (I : sI) (J : sJ) (P : sP) (K : sK) (n : Nat), INV I J P K n → N < i + 6 * f + 6 → i ≤ 3078 → n + 30 * f ≤ 601000 → gS K n + 1000 * f ≤ 7290000 → OkS (scS G N xs) G (d + 102) mL_law 23 (lwL i) [] I J P K n qOne := by
  intro f
  induction f with
  | zero =>
    intro i I J P K n hV h1 h2 h3 h4
    refine okS_iload dL_law_23 rfl (okS_aload_n (k := 0) dL_law_25 rfl (okS_slen dL_law_26 (okS_bipushV 6 dL_law_27 rfl (okS_isub dL_law_29 (okS_icmp_gt 1545 dL_law_30 (by decide) ⟨fun _ => ?_, fun z => absurd ((nI_6 hN (by omega)).mpr (by omega)) z⟩)))))
    exact okS_iconstV 1 dL_law_1545 rfl (okS_ret dL_law_1546 rfl rfl rfl)
  | succ f ih =>
    intro i I J P K n hV h1 h2 h3 h4
    refine okS_iload dL_law_23 rfl (okS_aload_n (k := 0) dL_law_25 rfl (okS_slen dL_law_26 (okS_bipushV 6 dL_law_27 rfl (okS_isub dL_law_29 (okS_icmp_gt 1545 dL_law_30 (by decide) ⟨fun _ => okS_iconstV 1 dL_law_1545 rfl (okS_ret dL_law_1546 rfl rfl rfl), fun z => ?_⟩)))))
    have hi : i + 5 < N := by
      by_cases q : N < i + 6
      · exact absurd ((nI_6 hN (by omega)).mpr q) z
      · omega
    have bu : bud K n := by
      unfold bud
      omega
    refine LW_one hl hN hi bu hV (fun I' J' P' K' n' hV' g => ?_)
    obtain ⟨g1, g2, g3⟩ := g
    refine okS_iincW (nI (i + 6)) (lwL (i + 6)) dL_law_1539 (by decide) rfl (i_add i 6) rfl (okS_goto 23 dL_law_1542 (by decide) ?_)
    exact ih (i + 6) I' J' P' K' n' hV' (by omega) (by omega) (by omega) (by omega)
end LawL
