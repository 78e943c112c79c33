/-! the law: from its first instruction to its loop -/
section LawB
variable {G : gG} {d : Nat} {I I' : sI} {J J' : sJ} {P P' : sP} {K K' : sK} {n : Nat} {N : Nat} {xs : Nat → Int32}
variable {tl : Nat} {tp : Nat → Nat} {f : Int32} {hd so : Nat → Nat} {nm : Nat → List Nat} {c : Nat} {us : Nat → Nat → Nat} {bm : Nat} {row : Nat → Nat} {ask st : Int32} {wr : Option (Nat → Int32)} {tx : List Nat} {sn : Option (List itT)} {im : Nat → Option imT}
theorem MR_g (h : MR I J P K tl tp f hd nm so c us bm row ask st wr tx sn im) (s : ∀ x k, 91 ≤ x → x ≤ 115 → I' x k = I x k ∧ J' x k = J x k ∧ P' x k = P x k) (sK : ∀ x, 91 ≤ x → x ≤ 115 → K' x = K x) : MR I' J' P' K' tl tp f hd nm so c us bm row ask st wr tx sn im := by
  obtain ⟨m1, m2, m3, m4, m5, m6, m7, m8, m9, m10, m11, m12, m13⟩ := h
  have q : ∀ x k, 91 ≤ x ∧ x ≤ 115 → I' x k = I x k := fun x k z => (s x k z.1 z.2).1
  have qJ : ∀ x k, 91 ≤ x ∧ x ≤ 115 → J' x k = J x k := fun x k z => (s x k z.1 z.2).2.1
  replace m1 : shM P' K' := shM_of m1 (fun k => (s 91 k (by omega) (by omega)).2.2) sK
  exact ⟨m1, rT_f m2 (q _ _ (by omega)) (fun k => (q _ _ (by omega))), (q _ _ (by omega)).trans m3, rM_f m4 (fun k hk => (q _ _ (by omega))), rNm_f m5 (fun k => (qJ _ _ (by omega))), rU_f m6 (q _ _ (by omega)) (fun k => (q _ _ (by omega))), rBl_f m7 (q _ _ (by omega)) (fun k => (q _ _ (by omega))), (q _ _ (by omega)).trans m8, (q _ _ (by omega)).trans m9, rWr_f m10 (q _ _ (by omega)) (fun k => (q _ _ (by omega))), rTx_f m11 (q _ _ (by omega)) (fun k => (q _ _ (by omega))), rSn_f m12 (fun k hk => (q _ _ (by omega))), fun k hk => mIm_f (m13 k hk) (fun i => (q _ _ (by omega))) (q _ _ (by omega)) (fun i => (qJ _ _ (by omega)))⟩
theorem LW_begin (hl : G.1.stackTraces = false) (hN : N ≤ 3072) : OkS (scS G N xs) G (d + 102) mL_law 0 (entL 7 [.ref (sS 9)]) [] I J P (fun _ => (20, 0)) 0 qOne := by
  refine okS_new (ci := 11) (q := (RX11, TX11, 19)) dL_law_0 rfl (by decide) (tbm 25 (by decide +kernel) rfl) (tbm 26 (by decide +kernel) rfl) (tbm 1 (by decide +kernel) rfl) ⟨by decide, by decide, ?_⟩
  refine okS_dup dL_law_3 rfl (okS_IqV (d := d + 101) (As := []) (rest := [.ref 0]) (b := 0) dL_law_4 lk_L_27 rfl rfl (Nat.le_of_ble_eq_true rfl) (Nat.le_of_ble_eq_true rfl) ?_)
  refine X_new (d := d + 98) (tp := fun _ => 0) (row := fun _ => 0) (nm := fun _ => []) (us := fun _ _ => 0) (fun k => z2_s _ _ _ _) (fun k => z2_s _ _ _ _) (u1_s _ _ _) (fun I1 J1 P1 K1 hX hL hH hS => ?_)
  refine okS_astore_nV (k := 1) [some (.ref (sS 9)), some (.ref 0), none, none, none, none, none] dL_law_7 (by decide) rfl ?_
  refine okS_new (ci := 12) (q := (RX12, TX12, 54)) dL_law_8 rfl (by decide) (tbm 1252 (by decide +kernel) rfl) (tbm 1246 (by decide +kernel) rfl) (tbm 10 (by decide +kernel) rfl) ⟨by decide, by show gS K1 91 + 54 ≤ 7293034; omega, ?_⟩
  refine okS_dup dL_law_11 rfl (okS_IqV (d := d + 101) (As := []) (rest := [.ref 91]) (b := 91) dL_law_12 lk_L_30 rfl rfl (Nat.le_of_ble_eq_true rfl) (Nat.le_of_ble_eq_true rfl) ?_)
  refine M_new (d := d + 99) (tp := fun _ => 0) (row := fun _ => 0) (nm := fun _ => []) (us := fun _ _ => 0) (fun k => z2_s _ _ _ _) (fun k => z2_s _ _ _ _) (u1_s _ _ _) (by rw [gS_new]; show gS K1 91 + 54 ≤ 20000; omega) (fun I2 J2 P2 K2 hM f2 k2 s2 => ?_)
  refine okS_astore_nV (k := 2) [some (.ref (sS 9)), some (.ref 0), some (.ref 91), none, none, none, none] dL_law_15 (by decide) rfl ?_
  refine okS_iconstV 1 dL_law_16 rfl (okS_newaJ dL_law_17 1 (tbm 286 (by decide +kernel) rfl) ⟨by decide, by decide, by decide⟩ ⟨by decide, by omega, ?_⟩)
  refine okS_astore_nV (k := 3) [some (.ref (sS 9)), some (.ref 0), some (.ref 91), some (.ref 116), none, none, none] dL_law_19 (by decide) rfl (okS_iconstV 0 dL_law_20 rfl (okS_istoreV (lwL 0) dL_law_21 (by decide) rfl ?_))
  have e1 : ∀ x k, x < 91 → z2 I2 116 0 x k = I1 x k ∧ z2 J2 116 0 x k = J1 x k ∧ z2 P2 116 none x k = P1 x k := fun x k hx => by
    obtain ⟨a1, a2, a3⟩ := f2 x k hx
    rw [z2_a _ _ _ (by omega)] at a1 a2 a3
    rw [z2_a _ _ _ (by omega), z2_a _ _ _ (by omega), z2_a _ _ _ (by omega)]
    exact ⟨a1, a2, a3⟩
  have eK : ∀ x, x < 91 → u1 K2 116 (14, 1) x = K1 x := fun x hx => by
    rw [u1_a _ _ (by omega), k2 x hx, u1_a _ _ (by omega)]
  have hXR : XR (z2 I2 116 0) (z2 J2 116 0) (z2 P2 116 none) (u1 K2 116 (14, 1)) 117 0 (fun _ => 0) 0 h0 (fun _ => []) (stS h0) 0 (fun _ _ => 0) 0 (fun _ => 0) (-1) (-1) none [] none (fun _ => none) := by
    refine ⟨shX_of hX (fun x k h _ _ _ _ _ => (e1 x k (by omega)).2.2) (fun x h => eK x (by omega)), by decide, XL_of hL (fun x k h _ => (e1 x k (by omega)).1), _, 0, XHc_mv (b := 66) hH rfl ⟨fun x k _ h2 _ => ⟨(e1 x k h2).1, (e1 x k h2).2.1⟩, fun x k _ h2 _ => (e1 x k h2).2.2, fun x h => eK x h⟩ (fun x k h _ => (e1 x k (by omega)).2.2) (e1 0 12 (by decide)).1 (e1 0 13 (by decide)).1 (by decide)⟩
  have hMR := MR_g (I' := z2 I2 116 0) (J' := z2 J2 116 0) (P' := z2 P2 116 none) (K' := u1 K2 116 (14, 1)) hM (fun x k _ h => ⟨z2_a _ _ _ (by omega), z2_a _ _ _ (by omega), z2_a _ _ _ (by omega)⟩) (fun x _ h => u1_a _ _ (by omega))
  refine LW_loop hl hN 512 0 _ _ _ _ _ ⟨u1_s _ _ _, _, _, _, _, _, _, _, _, _, _, _, _, _, _, _, _, hXR, hMR⟩ (by omega) (by decide) (by decide) ?_
  rw [gS_new]
  show gS K2 116 + 1 + 1000 * 512 ≤ 7290000
  omega
end LawB
