/-! the reference: tag -/
def dg3 (m : Nat) : List Nat := (if 100 ≤ m then [48 + m / 100] else []) ++ (if 10 ≤ m then [48 + m / 10 % 10] else []) ++ [48 + m % 10]
theorem dg3_len (m : Nat) : (dg3 m).length ≤ 3 := by
  unfold dg3
  split <;> split <;> simp
def tgL (nm : Nat → List Nat) (hd so : Nat → Nat) (k : Nat) : List Nat :=
  (nm (sof hd k)).map (96 + ·) ++ ([32] ++ [99, 97, 115, 107] ++ [32]) ++ dg3 (k - fst' hd (sof hd k)) ++ [32] ++ dg3 (ltr so k) ++ ([32] ++ [111, 102] ++ [32]) ++ dg3 (hol hd k)
def rNm (J : sJ) (hd : Nat → Nat) (nm : Nat → List Nat) : Prop := ∀ s, s < hd 0 → J 98 s = lN (vB 27 (nm s) 0) ∧ okW (nm s)
section ModTag
variable {G : gG} {d : Nat} {I : sI} {J : sJ} {P : sP} {K : sK} {n : Nat} {F : Int32 → sI → sJ → Prop} {FV : sI → sJ → Prop} {hd so : Nat → Nat}
theorem M_word {w l : List Nat} (hM : shM P K) (ok : okW w) (T : rTx I l) (hl : l.length ≤ 57) (h : ∀ I', rTx I' (l ++ w.map (96 + ·)) → frX I I' → FV I' J) : ckV G (d + 7) mX12_writeWord [.ref 91, .long (lN (vB 27 w 0))] I J P K n FV := by
  obtain ⟨h1, h2, h3⟩ := ok
  have hp : 0 < w.length := List.length_pos_iff.mpr h1
  have key := M_writeWord (G := G) (J := J) (n := n) (d := d + 6 - (w.length - 1)) (w := w) hM (w.length - 1) w l I FV (by omega) h2 h3 T (by omega) h
  rw [show d + 6 - (w.length - 1) + (w.length - 1) + 1 = d + 7 by omega] at key
  exact key
theorem M_next {w l : List Nat} (hM : shM P K) (ok : okW w) (T : rTx I l) (hl : l.length ≤ 50) (h : ∀ I', rTx I' (l ++ ([32] ++ w.map (96 + ·) ++ [32])) → frX I I' → FV I' J) : ckV G (d + 8) mX12_writeNext [.ref 91, .long (lN (vB 27 w 0))] I J P K n FV := by
  have h2 := ok.2.1
  refine bX12_writeNext_0 hM _ (M_write 32 hM T (by omega) (fun I1 T1 f1 => M_word hM ok T1 (by simp; omega) (fun I2 T2 f2 => M_write 32 hM T2 (by simp; omega) (fun I3 T3 f3 => h I3 ?_ (frX_tr f1 (frX_tr f2 f3))))))
  simpa [List.append_assoc] using T3
theorem M_num1 {m : Nat} {l : List Nat} (hM : shM P K) (hm : m ≤ 9) (T : rTx I l) (hl : l.length < 64) (h : ∀ I', rTx I' (l ++ [48 + m]) → frX I I' → FV I' J) : ckV G (d + 1) mX12_writeNumber [.ref 91, .int (nI m)] I J P K n FV := by
  have e : nI m - nI m / 10 * 10 = nI (m % 10) := i_rem (b := 10) (by omega) (by decide) (by decide)
  refine bX12_writeNumber_0 hM _ (br_t (nI_le (b := 9) hm (by decide)) ?_)
  rw [e, Nat.mod_eq_of_lt (by omega), show (48 + nI m : Int32) = nI (48 + m) by show nI 48 + nI m = _; rw [i_add]]
  exact M_write (48 + m) hM T hl h
theorem M_num2 {m : Nat} {l : List Nat} (hM : shM P K) (hm : m ≤ 99) (T : rTx I l) (hl : l.length < 63) (h : ∀ I', rTx I' (l ++ ((if 10 ≤ m then [48 + m / 10] else []) ++ [48 + m % 10])) → frX I I' → FV I' J) : ckV G (d + 2) mX12_writeNumber [.ref 91, .int (nI m)] I J P K n FV := by
  by_cases q : 10 ≤ m
  · have e : nI m - nI m / 10 * 10 = nI (m % 10) := i_rem (b := 10) (by omega) (by decide) (by decide)
    have e2 : nI m / 10 = nI (m / 10) := i_div (b := 10) (by omega) (by decide) (by decide)
    rw [if_pos q] at h
    refine bX12_writeNumber_0 hM _ (br_f (nI_ge (a := 9) (by omega) (by omega)) ?_)
    rw [e, e2, show (48 + nI (m % 10) : Int32) = nI (48 + m % 10) by show nI 48 + nI (m % 10) = _; rw [i_add]]
    refine M_num1 hM (by omega) T (by omega) (fun I1 T1 f1 => M_write (48 + m % 10) hM T1 (by simp; omega) (fun I2 T2 f2 => h I2 ?_ (frX_tr f1 f2)))
    rw [← List.append_assoc]; exact T2
  · rw [if_neg q, List.nil_append, Nat.mod_eq_of_lt (by omega)] at h
    exact M_num1 hM (by omega) T (by omega) h
theorem M_writeNumber {m : Nat} {l : List Nat} (hM : shM P K) (hm : m ≤ 999) (T : rTx I l) (hl : l.length < 60) (h : ∀ I', rTx I' (l ++ dg3 m) → frX I I' → FV I' J) : ckV G (d + 3) mX12_writeNumber [.ref 91, .int (nI m)] I J P K n FV := by
  by_cases q : 100 ≤ m
  · have e : nI m - nI m / 10 * 10 = nI (m % 10) := i_rem (b := 10) (by omega) (by decide) (by decide)
    have e2 : nI m / 10 = nI (m / 10) := i_div (b := 10) (by omega) (by decide) (by decide)
    refine bX12_writeNumber_0 hM _ (br_f (nI_ge (a := 9) (by omega) (by omega)) ?_)
    rw [e, e2, show (48 + nI (m % 10) : Int32) = nI (48 + m % 10) by show nI 48 + nI (m % 10) = _; rw [i_add]]
    refine M_num2 hM (by omega) T (by omega) (fun I1 T1 f1 => M_write (48 + m % 10) hM T1 ?_ (fun I2 T2 f2 => h I2 ?_ (frX_tr f1 f2)))
    · rw [if_pos (by omega)]; simp; omega
    · unfold dg3
      rw [if_pos q, if_pos (by omega)]
      rw [if_pos (by omega), show m / 10 / 10 = m / 100 by omega, List.append_assoc] at T2
      exact T2
  · refine M_num2 hM (by omega) T (by omega) (fun I1 T1 f1 => h I1 ?_ f1)
    unfold dg3
    rw [if_neg q, List.nil_append]
    by_cases q2 : 10 ≤ m
    · rw [if_pos q2] at T1 ⊢
      rw [show m / 10 % 10 = m / 10 by omega]; exact T1
    · rw [if_neg q2] at T1 ⊢
      exact T1
theorem M_sCask {FL : Int64 → sI → sJ → Prop} (h : FL (lN (vB 27 [3, 1, 19, 11] 0)) I J) : ckL G d mX12_spelt [.int 99, .int 97, .int 115, .int 107, .int 0, .int 0] I J P K n FL :=
  bX12_spelt_0 _ _ _ _ _ _ (br_f (by decide) (bX12_spelt_38 _ _ _ _ (br_f (by decide) (bX12_spelt_57 _ _ _ (br_t (by decide) (bX12_spelt_78 _ _ (br_t (by decide) h)))))))
theorem M_sOf {FL : Int64 → sI → sJ → Prop} (h : FL (lN (vB 27 [15, 6] 0)) I J) : ckL G d mX12_spelt [.int 111, .int 102, .int 0, .int 0, .int 0, .int 0] I J P K n FL :=
  bX12_spelt_0 _ _ _ _ _ _ (br_t (by decide) (bX12_spelt_38 _ _ _ _ (br_t (by decide) (bX12_spelt_57 _ _ _ (br_t (by decide) (bX12_spelt_78 _ _ (br_t (by decide) h)))))))
theorem M_tag {nm : Nat → List Nat} {tx : List Nat} (x : Int32) (hM : shM P K) (R : rM I hd so) (w : wf hd so) (N : rNm J hd nm) (T : rTx I tx) (h : ∀ I', rTx I' (if inB x (hd 1) then tgL nm hd so (cl x) else tx) → frX (u2 I 91 0 0) I' → F (if inB x (hd 1) then nI (tgL nm hd so (cl x)).length else -1) I' J) : ckI G (d + 9) mX12_tag [.ref 91, .int x] I J P K n F := by
  have R1 := rM_91 R 0 0
  have hc := wf_casks w
  have h5 := w.1
  have T1 : rTx (u2 I 91 0 0) tx := ⟨(u2_k _ _ _ _ (by decide)).trans T.1, fun k hk => (u2_a _ _ _ _ (by decide)).trans (T.2 k hk)⟩
  refine bX12_tag_0 hM _ (M_isCask x hM R1 w (b01n (fun e => ?_) (fun e => ?_)))
  · rw [e] at h; exact h _ T1 (frX_rf _)
  obtain ⟨k, hk, rfl⟩ := inB_t e
  rw [e, if_pos rfl, if_pos rfl, cl_nI (by omega)] at h
  have sa := sof_at w hk
  have hl := wf_ltr w hk
  have hh := wf_hol w hk
  have rk : ∀ {I1 : sI}, frX (u2 I 91 0 0) I1 → rM I1 hd so := fun f => rM_fr R1 (fun j => f 93 j (by decide) (by omega))
  have f0 : frX (u2 I 91 0 0) (u2 (u2 I 91 0 0) 91 43 0) := fun c j _ b => by simp only [u2]; rw [if_neg b]
  have T0 : rTx (u2 (u2 I 91 0 0) 91 43 0) [] := ⟨u2_s _ _ _ _, fun j hj => by simp at hj⟩
  refine M_scaleOf hM (rk f0) w hk ?_
  rw [nI_ck (by omega), (N (sof hd k) sa.1).1]
  refine ⟨nI_inN (by omega) (by decide), ?_⟩
  have okN := (N (sof hd k) sa.1).2
  have l0 := okN.2.1
  have l1 : ((nm (sof hd k)).map (96 + ·)).length ≤ 7 := by rw [List.length_map]; exact okN.2.1
  refine M_word hM okN T0 (by simp) (fun I1 A1 f1 => M_sCask ?_)
  rw [List.nil_append] at A1
  refine M_next hM ⟨by simp, by decide, by decide⟩ A1 (by omega) (fun I2 A2 f2 => ?_)
  have g2 := frX_tr f0 (frX_tr f1 f2)
  refine M_scaleOf hM (rk g2) w hk (M_firstNow hM (rk g2) (by omega) ?_)
  rw [i_sub sa.2.1]
  have d1 := dg3_len (k - fst' hd (sof hd k))
  have d2 := dg3_len (ltr so k)
  have d3' := dg3_len (hol hd k)
  refine M_writeNumber hM (by omega) A2 (by simp; omega) (fun I3 A3 f3 => M_write 32 hM A3 (by simp; omega) (fun I4 A4 f4 => ?_))
  have g4 := frX_tr g2 (frX_tr f3 f4)
  refine M_litresOf hM (rk g4) (by omega) (M_writeNumber hM (by omega) A4 (by simp; omega) (fun I5 A5 f5 => M_sOf (M_next hM ⟨by simp, by decide, by decide⟩ A5 (by simp; omega) (fun I6 A6 f6 => ?_))))
  have g6 := frX_tr g4 (frX_tr f5 f6)
  refine M_holds hM (rk g6) w hk (M_writeNumber hM (by omega) A6 (by simp; omega) (fun I7 A7 f7 => ?_))
  rw [A7.1]
  exact h I7 A7 (frX_tr g6 f7)
end ModTag
