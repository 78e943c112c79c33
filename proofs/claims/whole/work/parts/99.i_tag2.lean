/-! the class: the tag is written -/
theorem miX10_putText : MI mX10_putText 1 := ⟨by decide, tbm 926 (by decide +kernel) rfl, tbm 7 (by decide +kernel) rfl, Nat.le_of_ble_eq_true rfl, ⟨by decide, by decide⟩, by decide +kernel⟩
theorem miX10_putNumber' : MI mX10_putNumber 1 := ⟨by decide, tbm 933 (by decide +kernel) rfl, tbm 7 (by decide +kernel) rfl, Nat.le_of_ble_eq_true rfl, ⟨by decide, by decide⟩, by decide +kernel⟩
theorem lk_X10_40 : LkV RX10 40 mX10_putText 1 10 (RX10, TX10, 2) := ⟨miX10_putText, tbm 923 (by decide +kernel) rfl, tbm 924 (by decide +kernel) rfl, tbm 925 (by decide +kernel) rfl, rfl, by decide, rfl⟩
theorem lk_X10_48 : LkV RX10 48 mX10_putNumber 1 10 (RX10, TX10, 2) := ⟨miX10_putNumber', tbm 930 (by decide +kernel) rfl, tbm 931 (by decide +kernel) rfl, tbm 932 (by decide +kernel) rfl, rfl, by decide, rfl⟩
theorem lk_X10_44 : LkV RX10 44 mX5_numberOf 1 5 (RX5, TX5, 10) := ⟨miX5_numberOf, tbm 929 (by decide +kernel) rfl, tbm 625 (by decide +kernel) rfl, tbm 626 (by decide +kernel) rfl, rfl, by decide, rfl⟩
theorem lk_X10_59 : LkV RX10 59 mX5_holdsOf 1 5 (RX5, TX5, 10) := ⟨miX5_holdsOf, tbm 936 (by decide +kernel) rfl, tbm 593 (by decide +kernel) rfl, tbm 594 (by decide +kernel) rfl, rfl, by decide, rfl⟩
theorem fi_X10_54 : FI RX10 54 1 5 (RX1, TX1, 8) := ⟨rfl, by decide, by decide, tbm 321 (by decide +kernel) rfl⟩
def stx (i : Nat) : List Nat := match i with
  | 1 => [32, 99, 97, 115, 107, 32]
  | 2 => [32]
  | _ => [32, 111, 102, 32]
theorem stx_ok : ∀ i, i < 4 → 1 ≤ i → (stx i).length = sLen.getD i 0 ∧ (stx i).length ≤ 6 ∧ ∀ j, j < (stx i).length → sby i j = nI ((stx i).getD j 0) := by decide +kernel
theorem take_snoc {l : List Nat} {j : Nat} (h : j < l.length) : l.take (j + 1) = l.take j ++ [l.getD j 0] := by
  rw [List.take_succ, List.getD_eq_getElem?_getD, List.getElem?_eq_getElem h]
  rfl
section Tag7
variable {G : gG} {d : Nat} {I : sI} {J : sJ} {P : sP} {K : sK} {n : Nat} {FV : sI → sJ → Prop} {hd so : Nat → Nat} {nm : Nat → List Nat} {c l : Nat}
theorem C_putText {i : Nat} {w : List Nat} (hi : i < 4) (h1 : 1 ≤ i) (hX : shX P K) (T : rTg I w) (hl : w.length ≤ 33) (h : ∀ I', rTg I' (w ++ stx i) → frTg I I' → FV I' J) : ckV G (d + 4) mX10_putText [.ref 33, .ref (sS i)] I J P K n FV := by
  obtain ⟨s1, s2, s3⟩ := stx_ok i hi h1
  have k33 : (K 33).1 = 10 := by rw [shX_K33 hX]
  have lp : ∀ (f j : Nat) (I1 : sI), j + f = (stx i).length → rTg I1 (w ++ (stx i).take j) → frTg I I1 → Ok G (d + 4) mX10_putText 2 [some (.ref 33), some (.ref (sS i)), some (.int (nI j))] [] I1 J P K n (kV P K n FV) := by
    intro f
    induction f with
    | zero =>
      intro j I1 hj T1 f1
      refine ok_iload_n (k := 2) dX10_putText_2 rfl (ok_aload_n (k := 1) dX10_putText_3 rfl ?_)
      refine ok_callTI (M' := mJlen) (np := 0) (i := i) (As := []) (rest := [.int (nI j)]) hi dX10_putText_4 miJlen (tbm 927 (by decide +kernel) rfl) (tbm 455 (by decide +kernel) rfl) (tbm 456 (by decide +kernel) rfl) rfl rfl (Nat.le_of_ble_eq_true rfl) (Nat.le_of_ble_eq_true rfl) (S_len hi ?_)
      refine ok_icmp_ge 25 dX10_putText_7 (by decide) (br_t (nI_le (a := sLen.getD i 0) (by omega) (by omega)) ?_)
      refine ok_vret dX10_putText_25 rfl ⟨⟨rfl, rfl, rfl⟩, rfl, h I1 ?_ f1⟩
      rw [show j = (stx i).length by omega, List.take_length] at T1
      exact T1
    | succ f ih =>
      intro j I1 hj T1 f1
      refine ok_iload_n (k := 2) dX10_putText_2 rfl (ok_aload_n (k := 1) dX10_putText_3 rfl ?_)
      refine ok_callTI (M' := mJlen) (np := 0) (i := i) (As := []) (rest := [.int (nI j)]) hi dX10_putText_4 miJlen (tbm 927 (by decide +kernel) rfl) (tbm 455 (by decide +kernel) rfl) (tbm 456 (by decide +kernel) rfl) rfl rfl (Nat.le_of_ble_eq_true rfl) (Nat.le_of_ble_eq_true rfl) (S_len hi ?_)
      refine ok_icmp_ge 25 dX10_putText_7 (by decide) (br_f (nI_ge (b := sLen.getD i 0) (by omega) (by omega)) ?_)
      refine ok_aload_n (k := 0) dX10_putText_10 rfl (ok_aload_n (k := 1) dX10_putText_11 rfl (ok_iload_n (k := 2) dX10_putText_12 rfl ?_))
      refine ok_callTI (M' := mJchr) (np := 1) (i := i) (As := [.int (nI j)]) (rest := [.ref 33]) hi dX10_putText_13 miJchr (tbm 928 (by decide +kernel) rfl) (tbm 465 (by decide +kernel) rfl) (tbm 466 (by decide +kernel) rfl) rfl rfl (Nat.le_of_ble_eq_true rfl) (Nat.le_of_ble_eq_true rfl) (S_chr hi (nI_pos (by omega)) (nI_lt (b := sLen.getD i 0) (by omega) (by omega)) (by rw [nI_ck (by omega)]; omega) ?_)
      rw [nI_ck (by omega), s3 j (by omega)]
      refine ok_VkV (As := [.int (nI ((stx i).getD j 0))]) (rest := []) (b := 33) dX10_putText_16 lk_X10_71 rfl rfl (Nat.le_of_ble_eq_true rfl) (Nat.le_of_ble_eq_true rfl) k33 (C_put _ hX T1 (by rw [List.length_append, List.length_take]; omega) (fun I2 T2 f2 => ?_))
      refine ok_iincV (k := 2) (nI (j + 1)) dX10_putText_19 (by decide) rfl (nI_1 j) (ok_goto 2 dX10_putText_22 (by decide) ?_)
      refine ih (j + 1) I2 (by omega) ?_ (frTg_tr f1 f2)
      rw [take_snoc (by omega), ← List.append_assoc]
      exact T2
  refine ok_iconstV 0 dX10_putText_0 rfl (ok_istore_n (k := 2) dX10_putText_1 (by decide) ?_)
  refine lp (stx i).length 0 I (by omega) ?_ (frTg_rf I)
  rw [List.take_zero, List.append_nil]
  exact T
theorem C_write {k : Nat} (hX : shX P K) (S : sC P K c l) (L : rL I l hd) (N : rLN J l hd nm) (C : rC I c hd so) (w : wf hd so) (hk : k < hd 1) (h : ∀ I', rTg I' (tgL nm hd so k) → frTg I I' → FV I' J) : ckV G (d + 5) mX10_write [.ref 33, .ref c, .int (nI k)] I J P K n FV := by
  have k33 : (K 33).1 = 10 := by rw [shX_K33 hX]
  have kc : (K c).1 = 1 := by rw [S.1.1]
  have kl : (K l).1 = 5 := by rw [S.2.2.1.1]
  have hcs := wf_casks w
  have w1 := w.1
  have hc34 := S.2.2.2.1
  have hl34 := S.2.2.2.2.1
  have hso := sof_at w hk
  have sL := S.2.2.1
  have ok := N _ hso.1
  have h10 := (w.2.1 _ hso.1).2.2.2
  have hlt := w.2.2.2.2.2.2.2.1 k hk
  have hhl : hol hd k ≤ 400 := h10
  have hkn : k - fst' hd (sof hd k) ≤ 999 := by omega
  have ck : (nI k).toNatClampNeg = k := nI_ck (by omega)
  have vk : vp_in (nI k) 20 := nI_inN (by omega) (by decide)
  refine ok_aload_n (k := 1) dX10_write_0 rfl (ok_getPV dX10_write_1 fi_X10_15 rfl kc S.2.1 (ok_astore_n (k := 3) dX10_write_4 (by decide) ?_))
  refine ok_aload_n (k := 0) dX10_write_5 rfl (ok_iconstV 0 dX10_write_6 rfl (ok_putI dX10_write_7 fi_X10_21 (Or.inl rfl) (Or.inl rfl) ⟨k33, ?_⟩))
  have T0 : rTg (u2 I 33 1 0) [] := ⟨u2_s _ _ _ _, fun k hk => absurd hk (Nat.not_lt_zero k)⟩
  have f0 : frTg I (u2 I 33 1 0) := fun a j h1 h2 => by simp only [u2]; rw [if_neg h2]
  have i0 : u2 I 33 1 0 (l + 5) k = nI (sof hd k) := (u2_a _ _ _ _ (by omega)).trans (L.2.2 k hk)
  refine ok_aload_n (k := 0) dX10_write_10 rfl (ok_aload_n (k := 3) dX10_write_11 rfl (ok_getPV dX10_write_12 fi_X10_25 rfl kl (shL_P5 sL) ?_))
  refine ok_aload_n (k := 3) dX10_write_15 rfl (ok_getPV dX10_write_16 fi_X10_31 rfl kl sL.2.2.2.2.2.2.2.2.2.1 (ok_iload_n (k := 2) dX10_write_19 rfl (ok_ialoadV (nI (sof hd k)) sL.2.2.2.2.2.2.2.2.2.2 dX10_write_20 vk (by rw [ck]; exact i0) ?_)))
  refine ok_laload dX10_write_21 ⟨by rw [shL_A5 sL], by rw [shL_A5 sL]; exact nI_inN (by omega) (by decide), ?_⟩
  rw [nI_ck (by omega), ok.1]
  refine ok_VkV (As := [.long (lN (vB 32 (nm (sof hd k)) 0))]) (rest := []) (b := 33) dX10_write_22 lk_X10_34 rfl rfl (Nat.le_of_ble_eq_true rfl) (Nat.le_of_ble_eq_true rfl) k33 (C_putName (d := d + 3) hX ok.2 T0 (by decide) (fun I1 T1 f1 => ?_))
  have b1 : ((nm (sof hd k)).map (96 + ·)).length ≤ 7 := by rw [List.length_map]; exact ok.2.2.1
  rw [List.nil_append] at T1
  refine ok_aload_n (k := 0) dX10_write_25 rfl (ok_ldcS 1 (by decide) rfl dX10_write_26 (ok_VkV (As := [.ref (sS 1)]) (rest := []) (b := 33) dX10_write_28 lk_X10_40 rfl rfl (Nat.le_of_ble_eq_true rfl) (Nat.le_of_ble_eq_true rfl) k33 (C_putText (by decide) (by decide) hX T1 (by omega) (fun I2 T2 f2 => ?_))))
  have q2 : ∀ a j, 34 < a → I2 a j = I a j := fun a j ha => (f2 a j (by omega) (by omega)).trans ((f1 a j (by omega) (by omega)).trans (f0 a j (by omega) (by omega)))
  have l2 : ((nm (sof hd k)).map (96 + ·) ++ stx 1).length ≤ 13 := by rw [List.length_append]; show _ + 6 ≤ 13; omega
  refine ok_aload_n (k := 0) dX10_write_31 rfl (ok_aload_n (k := 3) dX10_write_32 rfl (ok_iload_n (k := 2) dX10_write_33 rfl (ok_VkI (As := [.int (nI k)]) (rest := [.ref 33]) (b := l) dX10_write_34 lk_X10_44 rfl rfl (Nat.le_of_ble_eq_true rfl) (Nat.le_of_ble_eq_true rfl) kl (C_numberOf sL (rL_of L (fun a j h1 h2 => q2 a j (by omega))) w hk ?_))))
  refine ok_VkV (As := [.int (nI (k - fst' hd (sof hd k)))]) (rest := []) (b := 33) dX10_write_37 lk_X10_48 rfl rfl (Nat.le_of_ble_eq_true rfl) (Nat.le_of_ble_eq_true rfl) k33 (C_putNumber (d := d + 3) hX hkn T2 (by omega) (fun I3 T3 f3 => ?_))
  have d3 := dg3_len (k - fst' hd (sof hd k))
  refine ok_aload_n (k := 0) dX10_write_40 rfl (ok_ldcS 2 (by decide) rfl dX10_write_41 (ok_VkV (As := [.ref (sS 2)]) (rest := []) (b := 33) dX10_write_43 lk_X10_40 rfl rfl (Nat.le_of_ble_eq_true rfl) (Nat.le_of_ble_eq_true rfl) k33 (C_putText (by decide) (by decide) hX T3 (by rw [List.length_append]; omega) (fun I4 T4 f4 => ?_))))
  have q4 : ∀ a j, 34 < a → I4 a j = I a j := fun a j ha => (f4 a j (by omega) (by omega)).trans ((f3 a j (by omega) (by omega)).trans (q2 a j ha))
  have i4 : I4 (c + 22) k = nI (ltr so k) := (q4 _ _ (by omega)).trans (C.2.2.2.2.1 k hk).1
  refine ok_aload_n (k := 0) dX10_write_46 rfl (ok_aload_n (k := 1) dX10_write_47 rfl (ok_getPV dX10_write_48 fi_X10_54 rfl kc (shC_P5 S.1) (ok_iload_n (k := 2) dX10_write_51 rfl (ok_ialoadV (nI (ltr so k)) (shC_A5 S.1) dX10_write_52 vk (by rw [ck]; exact i4) ?_))))
  have l4 : (((nm (sof hd k)).map (96 + ·) ++ stx 1) ++ dg3 (k - fst' hd (sof hd k)) ++ stx 2).length ≤ 17 := by rw [List.length_append, List.length_append]; show _ + _ + 1 ≤ 17; omega
  refine ok_VkV (As := [.int (nI (ltr so k))]) (rest := []) (b := 33) dX10_write_53 lk_X10_48 rfl rfl (Nat.le_of_ble_eq_true rfl) (Nat.le_of_ble_eq_true rfl) k33 (C_putNumber (d := d + 3) hX (by omega) T4 (by omega) (fun I5 T5 f5 => ?_))
  have d5 := dg3_len (ltr so k)
  refine ok_aload_n (k := 0) dX10_write_56 rfl (ok_ldcS 3 (by decide) rfl dX10_write_57 (ok_VkV (As := [.ref (sS 3)]) (rest := []) (b := 33) dX10_write_59 lk_X10_40 rfl rfl (Nat.le_of_ble_eq_true rfl) (Nat.le_of_ble_eq_true rfl) k33 (C_putText (by decide) (by decide) hX T5 (by rw [List.length_append]; omega) (fun I6 T6 f6 => ?_))))
  have q6 : ∀ a j, 34 < a → I6 a j = I a j := fun a j ha => (f6 a j (by omega) (by omega)).trans ((f5 a j (by omega) (by omega)).trans (q4 a j ha))
  refine ok_aload_n (k := 0) dX10_write_62 rfl (ok_aload_n (k := 3) dX10_write_63 rfl (ok_iload_n (k := 2) dX10_write_64 rfl (ok_VkI (As := [.int (nI k)]) (rest := [.ref 33]) (b := l) dX10_write_65 lk_X10_59 rfl rfl (Nat.le_of_ble_eq_true rfl) (Nat.le_of_ble_eq_true rfl) kl (C_holdsOf sL (rL_of L (fun a j h1 h2 => q6 a j (by omega))) w hk ?_))))
  have l6 : ((((nm (sof hd k)).map (96 + ·) ++ stx 1) ++ dg3 (k - fst' hd (sof hd k)) ++ stx 2) ++ dg3 (ltr so k) ++ stx 3).length ≤ 24 := by rw [List.length_append, List.length_append]; show _ + _ + 4 ≤ 24; omega
  refine ok_VkV (As := [.int (nI (hol hd k))]) (rest := []) (b := 33) dX10_write_68 lk_X10_48 rfl rfl (Nat.le_of_ble_eq_true rfl) (Nat.le_of_ble_eq_true rfl) k33 (C_putNumber (d := d + 3) hX (by omega) T6 (by omega) (fun I7 T7 f7 => ?_))
  refine ok_vret dX10_write_71 rfl ⟨⟨rfl, rfl, rfl⟩, rfl, h I7 T7 (frTg_tr f0 (frTg_tr f1 (frTg_tr f2 (frTg_tr f3 (frTg_tr f4 (frTg_tr f5 (frTg_tr f6 f7)))))))⟩
end Tag7
