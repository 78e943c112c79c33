/-! the law: what catches; both sides of the calls that throw -/
section LawH
variable {G : gG} {d : Nat} {I I' : sI} {J J' : sJ} {P : sP} {K K' : sK} {n n' : Nat} {F : Int32 → sI → sJ → sP → sK → Nat → Prop}
theorem H_litres (x y : Int32) (k0 : (K 0).1 = 11) (h : OkX G d mX11_litres 0 (entL 3 [.ref 0, .int x, .int y]) [] I J P K n (qI (fun r I' J' P' K' n' => K' 116 = (14, 1) ∧ F 0 I' (u2 J' 116 0 r.toInt64) P' K' n')) (fun I' J' P' K' n' => F 1 I' J' P' K' n')) : OkH G (d + 1) mL_litres 0 (entL 5 [.ref 0, .int x, .int y, .ref 116]) [] I J P K n (qI F) := by
  refine okH_aload_n (k := 3) dL_litres_0 rfl (okH_iconst 0 dL_litres_1 rfl (okH_aload_n (k := 0) dL_litres_2 rfl (okH_iload_n (k := 1) dL_litres_3 rfl (okH_iload_n (k := 2) dL_litres_4 rfl ?_))))
  refine okH_callVX (As := [.int x, .int y]) (rest := [.int 0, .ref 116]) (b := 0) dL_litres_5 lk_L_7 rfl rfl (Nat.le_of_ble_eq_true rfl) (Nat.le_of_ble_eq_true rfl) k0 dL_litres_13 rfl rfl (fun v e => by cases e; decide) clL_13 (okX_mono (fun r I' J' P' K' n' q => ?_) (fun I' J' P' K' n' q => ?_) h)
  · obtain ⟨v, rfl, k116, q⟩ := q
    exact ok_i2l dL_litres_8 (ok_lastoreV 0 k116 dL_litres_9 (nI_inN (n := 0) (by decide) (by decide)) rfl (ok_goto 17 dL_litres_10 (by decide) (ok_iconstV 0 dL_litres_17 rfl (ok_ret dL_litres_18 rfl rfl ⟨0, rfl, q⟩))))
  · exact ok_iconstV 1 dL_litres_15 rfl (ok_ret dL_litres_16 rfl rfl ⟨1, rfl, q⟩)
theorem H_age (x y : Int32) (k0 : (K 0).1 = 11) (h : OkX G d mX11_age 0 (entL 3 [.ref 0, .int x, .int y]) [] I J P K n (qI (fun r I' J' P' K' n' => K' 116 = (14, 1) ∧ F 0 I' (u2 J' 116 0 r.toInt64) P' K' n')) (fun I' J' P' K' n' => F 1 I' J' P' K' n')) : OkH G (d + 1) mL_age 0 (entL 5 [.ref 0, .int x, .int y, .ref 116]) [] I J P K n (qI F) := by
  refine okH_aload_n (k := 3) dL_age_0 rfl (okH_iconst 0 dL_age_1 rfl (okH_aload_n (k := 0) dL_age_2 rfl (okH_iload_n (k := 1) dL_age_3 rfl (okH_iload_n (k := 2) dL_age_4 rfl ?_))))
  refine okH_callVX (As := [.int x, .int y]) (rest := [.int 0, .ref 116]) (b := 0) dL_age_5 lk_L_15 rfl rfl (Nat.le_of_ble_eq_true rfl) (Nat.le_of_ble_eq_true rfl) k0 dL_age_13 rfl rfl (fun v e => by cases e; decide) clL_13 (okX_mono (fun r I' J' P' K' n' q => ?_) (fun I' J' P' K' n' q => ?_) h)
  · obtain ⟨v, rfl, k116, q⟩ := q
    exact ok_i2l dL_age_8 (ok_lastoreV 0 k116 dL_age_9 (nI_inN (n := 0) (by decide) (by decide)) rfl (ok_goto 17 dL_age_10 (by decide) (ok_iconstV 0 dL_age_17 rfl (ok_ret dL_age_18 rfl rfl ⟨0, rfl, q⟩))))
  · exact ok_iconstV 1 dL_age_15 rfl (ok_ret dL_age_16 rfl rfl ⟨1, rfl, q⟩)
theorem H_old (x y : Int32) (k0 : (K 0).1 = 11) (h : OkX G d mX11_old 0 (entL 3 [.ref 0, .int x, .int y]) [] I J P K n (qI (fun r I' J' P' K' n' => K' 116 = (14, 1) ∧ F 0 I' (u2 J' 116 0 r.toInt64) P' K' n')) (fun I' J' P' K' n' => F 1 I' J' P' K' n')) : OkH G (d + 1) mL_old 0 (entL 5 [.ref 0, .int x, .int y, .ref 116]) [] I J P K n (qI F) := by
  refine okH_aload_n (k := 3) dL_old_0 rfl (okH_iconst 0 dL_old_1 rfl (okH_aload_n (k := 0) dL_old_2 rfl (okH_iload_n (k := 1) dL_old_3 rfl (okH_iload_n (k := 2) dL_old_4 rfl ?_))))
  refine okH_callVX (As := [.int x, .int y]) (rest := [.int 0, .ref 116]) (b := 0) dL_old_5 lk_L_18 rfl rfl (Nat.le_of_ble_eq_true rfl) (Nat.le_of_ble_eq_true rfl) k0 dL_old_13 rfl rfl (fun v e => by cases e; decide) clL_13 (okX_mono (fun r I' J' P' K' n' q => ?_) (fun I' J' P' K' n' q => ?_) h)
  · obtain ⟨v, rfl, k116, q⟩ := q
    exact ok_i2l dL_old_8 (ok_lastoreV 0 k116 dL_old_9 (nI_inN (n := 0) (by decide) (by decide)) rfl (ok_goto 17 dL_old_10 (by decide) (ok_iconstV 0 dL_old_17 rfl (ok_ret dL_old_18 rfl rfl ⟨0, rfl, q⟩))))
  · exact ok_iconstV 1 dL_old_15 rfl (ok_ret dL_old_16 rfl rfl ⟨1, rfl, q⟩)
theorem H_mean (x y : Int32) (k0 : (K 0).1 = 11) (h : OkX G d mX11_mean 0 (entL 3 [.ref 0, .int x, .int y]) [] I J P K n (qI (fun r I' J' P' K' n' => K' 116 = (14, 1) ∧ F 0 I' (u2 J' 116 0 r.toInt64) P' K' n')) (fun I' J' P' K' n' => F 1 I' J' P' K' n')) : OkH G (d + 1) mL_mean 0 (entL 5 [.ref 0, .int x, .int y, .ref 116]) [] I J P K n (qI F) := by
  refine okH_aload_n (k := 3) dL_mean_0 rfl (okH_iconst 0 dL_mean_1 rfl (okH_aload_n (k := 0) dL_mean_2 rfl (okH_iload_n (k := 1) dL_mean_3 rfl (okH_iload_n (k := 2) dL_mean_4 rfl ?_))))
  refine okH_callVX (As := [.int x, .int y]) (rest := [.int 0, .ref 116]) (b := 0) dL_mean_5 lk_L_21 rfl rfl (Nat.le_of_ble_eq_true rfl) (Nat.le_of_ble_eq_true rfl) k0 dL_mean_13 rfl rfl (fun v e => by cases e; decide) clL_13 (okX_mono (fun r I' J' P' K' n' q => ?_) (fun I' J' P' K' n' q => ?_) h)
  · obtain ⟨v, rfl, k116, q⟩ := q
    exact ok_i2l dL_mean_8 (ok_lastoreV 0 k116 dL_mean_9 (nI_inN (n := 0) (by decide) (by decide)) rfl (ok_goto 17 dL_mean_10 (by decide) (ok_iconstV 0 dL_mean_17 rfl (ok_ret dL_mean_18 rfl rfl ⟨0, rfl, q⟩))))
  · exact ok_iconstV 1 dL_mean_15 rfl (ok_ret dL_mean_16 rfl rfl ⟨1, rfl, q⟩)
theorem H_part (x y : Int32) (k0 : (K 0).1 = 11) (h : OkX G d mX11_part 0 (entL 3 [.ref 0, .int x, .int y]) [] I J P K n (qI (fun r I' J' P' K' n' => K' 116 = (14, 1) ∧ F 0 I' (u2 J' 116 0 r.toInt64) P' K' n')) (fun I' J' P' K' n' => F 1 I' J' P' K' n')) : OkH G (d + 1) mL_part 0 (entL 5 [.ref 0, .int x, .int y, .ref 116]) [] I J P K n (qI F) := by
  refine okH_aload_n (k := 3) dL_part_0 rfl (okH_iconst 0 dL_part_1 rfl (okH_aload_n (k := 0) dL_part_2 rfl (okH_iload_n (k := 1) dL_part_3 rfl (okH_iload_n (k := 2) dL_part_4 rfl ?_))))
  refine okH_callVX (As := [.int x, .int y]) (rest := [.int 0, .ref 116]) (b := 0) dL_part_5 lk_L_24 rfl rfl (Nat.le_of_ble_eq_true rfl) (Nat.le_of_ble_eq_true rfl) k0 dL_part_13 rfl rfl (fun v e => by cases e; decide) clL_13 (okX_mono (fun r I' J' P' K' n' q => ?_) (fun I' J' P' K' n' q => ?_) h)
  · obtain ⟨v, rfl, k116, q⟩ := q
    exact ok_i2l dL_part_8 (ok_lastoreV 0 k116 dL_part_9 (nI_inN (n := 0) (by decide) (by decide)) rfl (ok_goto 17 dL_part_10 (by decide) (ok_iconstV 0 dL_part_17 rfl (ok_ret dL_part_18 rfl rfl ⟨0, rfl, q⟩))))
  · exact ok_iconstV 1 dL_part_15 rfl (ok_ret dL_part_16 rfl rfl ⟨1, rfl, q⟩)
end LawH
section LawX
variable {G : gG} {d : Nat} {I I' : sI} {J J' : sJ} {P P' : sP} {K K' : sK} {n n' : Nat} {A : Int32 → Int32 → sI → sJ → sP → sK → Nat → Prop}
variable {tl : Nat} {tp : Nat → Nat} {f : Int32} {hd so : Nat → Nat} {nm : Nat → List Nat} {c : Nat} {us : Nat → Nat → Nat} {bm : Nat} {row : Nat → Nat} {ask st : Int32} {wr : Option (Nat → Int32)} {tx : List Nat} {sn : Option (List itT)} {im : Nat → Option imT}
theorem XR_up (h : XR I J P K n tl tp f hd nm so c us bm row ask st wr tx sn im) (hn' : n ≤ n') (fK : ∀ x, x < n → K' x = K x) (s : ∀ x k, ¬ (91 ≤ x ∧ x ≤ 116) → J' x k = J x k) : XR I J' P K' n' tl tp f hd nm so c us bm row ask st wr tx sn im := by
  obtain ⟨hX, hn, hL, cs, nx, lk, g, iI, t, C0, A, S, M⟩ := h
  have ff : fD (fun x => 91 ≤ x ∧ x ≤ 116) n I I J J' P P K K' := ⟨fun x k _ _ z => ⟨rfl, s x k z, rfl⟩, fK⟩
  have d2 : ∀ x m y, outC n cs x m → x ≤ y → y ≤ x + m → ¬ (91 ≤ y ∧ y ≤ 116) := fun x m y o h1 h2 => by
    have := o.2.1
    omega
  have hs := subC_rf n cs
  obtain ⟨b, hb⟩ := id t
  have key : ∀ (i : Nat) (hd so : Nat → Nat) (nm : Nat → List Nat), i < 12 → cR I J P K n cs (cs i) hd nm so → cR I J' P K' n' cs (cs i) hd nm so := fun i hd so nm hi hc => by
    obtain ⟨a, l, e, q⟩ := hc
    have oa := (g i a hi e).2.1
    rw [e]
    exact cR_mvD ⟨a, l, rfl, q⟩ oa ff (fun x h1 h2 => by have := oa.2.1; omega) d2 hn' hs
  refine ⟨shX_of hX (fun _ _ _ _ _ _ _ _ => rfl) (fun x hx => fK x (by omega)), by omega, hL, cs, nx, lk, geC_mv g (b := b) (fun _ _ _ _ _ => rfl) fK ⟨1, by decide, hb⟩ hn', iI, t, key 0 _ _ _ (by omega) C0, fun i hi => key _ _ _ _ (by omega) (A i hi), syC_mvD S ff d2 hn' hs, fun k hk => ?_⟩
  have Mk := M k hk
  cases e : im k with
  | none => rw [e] at Mk; exact Mk
  | some q =>
    rw [e] at Mk
    exact ⟨key _ _ _ _ (by omega) Mk.1, syC_mvD Mk.2 ff d2 hn' hs⟩
theorem MR_up (h : MR I J P K tl tp f hd nm so c us bm row ask st wr tx sn im) (fK : ∀ x, x ≤ 115 → K' x = K x) (s : ∀ x k, x ≤ 115 → J' x k = J x k) : MR I J' P K' tl tp f hd nm so c us bm row ask st wr tx sn im := by
  obtain ⟨m1, m2, m3, m4, m5, m6, m7, m8, m9, m10, m11, m12, m13⟩ := h
  exact ⟨shM_of m1 (fun _ => rfl) (fun x _ h2 => fK x h2), m2, m3, m4, rNm_f m5 (fun k => s _ _ (by omega)), m6, m7, m8, m9, m10, m11, m12, fun k hk => mIm_f (m13 k hk) (fun _ => rfl) rfl (fun i => s _ _ (by omega))⟩
theorem u1_lt {K : sK} {v : Nat × Nat} : ∀ x, x < n → u1 K n v x = K x := fun x hx => u1_a K v (by omega)
theorem LS_litres (x y : Int32) (hl : G.1.stackTraces = false) (bu : bud K n) (h : INV I J P K n) (hA : ∀ k v I' J' P' K' n', INV I' J' P' K' n' → grw K K' n n' → I' 91 0 = k → (k = 0 → J' 116 0 = v.toInt64) → A k v I' J' P' K' n') : OkH G (d + 101) mL_litres 0 (entL 5 [.ref 0, .int x, .int y, .ref 116]) [] I J P K n (qI (fun k I1 J1 P1 K1 n1 => ckI G (d + 101) mX12_litres [.ref 91, .int x, .int y] I1 J1 P1 K1 n1 (fun v I2 J2 => A k v I2 J2 P1 K1 n1))) := by
  obtain ⟨k116, tl, tp, f, hd, nm, so, c, us, bm, row, ask, st, wr, tx, sn, im, hR, hM⟩ := h
  obtain ⟨hX, hn, hL, cs, nx, hh⟩ := id hR
  obtain ⟨a, l, p8, e0, oa, oL, S, L, N, C, w⟩ := XH_sC hh
  obtain ⟨b1, b2⟩ := id bu
  refine H_litres (d := d + 100) x y (congrArg Prod.fst (shX_K0 hX)) (C_litres (d := d + 80) x y hl hX p8 S L C w (by omega) (by omega) ?_)
  cases e : qLitres hd so x y with
  | some v =>
    refine ⟨k116, ?_⟩
    have jf : ∀ x k, x ≠ 116 → u2 J 116 0 v.toInt64 x k = J x k := fun x k z => u2_a _ _ _ _ z
    have hR' := XR_up (J' := u2 J 116 0 v.toInt64) hR (Nat.le_refl n) (fun _ _ => rfl) (fun x k z => jf x k (by omega))
    have hM' := MR_up (J' := u2 J 116 0 v.toInt64) hM (fun _ _ => rfl) (fun x k z => jf x k (by omega))
    refine M_litres x y hM'.1 hM'.2.2.2.1 w ?_
    rw [e]
    exact hA _ _ _ _ _ _ _ ⟨k116, _, _, _, _, _, _, _, _, _, _, _, _, _, _, _, _, XR_md hR' (md_0 0), MR_0 0 hM'⟩ (grw_rf K n) (u2_s _ _ _ _) (fun _ => u2_s _ _ _ _)
  | none =>
    intro z hz
    have hR' := XR_up (K' := u1 K n (19, z)) (n' := n + 1) hR (by omega) u1_lt (fun _ _ _ => rfl)
    have hM' := MR_up (K' := u1 K n (19, z)) hM (fun x hx => u1_lt x (by omega)) (fun _ _ _ => rfl)
    refine M_litres x y hM'.1 hM'.2.2.2.1 w ?_
    rw [e]
    refine hA _ _ _ _ _ _ _ ⟨(u1_lt _ hn).trans k116, _, _, _, _, _, _, _, _, _, _, _, _, _, _, _, _, XR_md (XR_md hR' (md_0 0)) (md_0 1), MR_0 1 (MR_0 0 hM')⟩ ⟨by omega, by omega, by rw [gS_new]; show gS K n + z ≤ _; omega⟩ (u2_s _ _ _ _) (fun q => absurd q (by decide))
theorem LS_age (x y : Int32) (hl : G.1.stackTraces = false) (bu : bud K n) (h : INV I J P K n) (hA : ∀ k v I' J' P' K' n', INV I' J' P' K' n' → grw K K' n n' → I' 91 0 = k → (k = 0 → J' 116 0 = v.toInt64) → A k v I' J' P' K' n') : OkH G (d + 101) mL_age 0 (entL 5 [.ref 0, .int x, .int y, .ref 116]) [] I J P K n (qI (fun k I1 J1 P1 K1 n1 => ckI G (d + 101) mX12_age [.ref 91, .int x, .int y] I1 J1 P1 K1 n1 (fun v I2 J2 => A k v I2 J2 P1 K1 n1))) := by
  obtain ⟨k116, tl, tp, f, hd, nm, so, c, us, bm, row, ask, st, wr, tx, sn, im, hR, hM⟩ := h
  obtain ⟨hX, hn, hL, cs, nx, hh⟩ := id hR
  obtain ⟨a, l, p8, e0, oa, oL, S, L, N, C, w⟩ := XH_sC hh
  obtain ⟨b1, b2⟩ := id bu
  refine H_age (d := d + 100) x y (congrArg Prod.fst (shX_K0 hX)) (C_age (d := d + 80) x y hl hX p8 S L C w (by omega) (by omega) ?_)
  cases e : qAge hd so x y with
  | some v =>
    refine ⟨k116, ?_⟩
    have jf : ∀ x k, x ≠ 116 → u2 J 116 0 v.toInt64 x k = J x k := fun x k z => u2_a _ _ _ _ z
    have hR' := XR_up (J' := u2 J 116 0 v.toInt64) hR (Nat.le_refl n) (fun _ _ => rfl) (fun x k z => jf x k (by omega))
    have hM' := MR_up (J' := u2 J 116 0 v.toInt64) hM (fun _ _ => rfl) (fun x k z => jf x k (by omega))
    refine M_age x y hM'.1 hM'.2.2.2.1 w ?_
    rw [e]
    exact hA _ _ _ _ _ _ _ ⟨k116, _, _, _, _, _, _, _, _, _, _, _, _, _, _, _, _, XR_md hR' (md_0 0), MR_0 0 hM'⟩ (grw_rf K n) (u2_s _ _ _ _) (fun _ => u2_s _ _ _ _)
  | none =>
    intro z hz
    have hR' := XR_up (K' := u1 K n (19, z)) (n' := n + 1) hR (by omega) u1_lt (fun _ _ _ => rfl)
    have hM' := MR_up (K' := u1 K n (19, z)) hM (fun x hx => u1_lt x (by omega)) (fun _ _ _ => rfl)
    refine M_age x y hM'.1 hM'.2.2.2.1 w ?_
    rw [e]
    refine hA _ _ _ _ _ _ _ ⟨(u1_lt _ hn).trans k116, _, _, _, _, _, _, _, _, _, _, _, _, _, _, _, _, XR_md (XR_md hR' (md_0 0)) (md_0 1), MR_0 1 (MR_0 0 hM')⟩ ⟨by omega, by omega, by rw [gS_new]; show gS K n + z ≤ _; omega⟩ (u2_s _ _ _ _) (fun q => absurd q (by decide))
theorem LS_old (x y : Int32) (hl : G.1.stackTraces = false) (bu : bud K n) (h : INV I J P K n) (hA : ∀ k v I' J' P' K' n', INV I' J' P' K' n' → grw K K' n n' → I' 91 0 = k → (k = 0 → J' 116 0 = v.toInt64) → A k v I' J' P' K' n') : OkH G (d + 101) mL_old 0 (entL 5 [.ref 0, .int x, .int y, .ref 116]) [] I J P K n (qI (fun k I1 J1 P1 K1 n1 => ckI G (d + 101) mX12_old [.ref 91, .int x, .int y] I1 J1 P1 K1 n1 (fun v I2 J2 => A k v I2 J2 P1 K1 n1))) := by
  obtain ⟨k116, tl, tp, f, hd, nm, so, c, us, bm, row, ask, st, wr, tx, sn, im, hR, hM⟩ := h
  obtain ⟨hX, hn, hL, cs, nx, hh⟩ := id hR
  obtain ⟨a, l, p8, e0, oa, oL, S, L, N, C, w⟩ := XH_sC hh
  obtain ⟨b1, b2⟩ := id bu
  refine H_old (d := d + 100) x y (congrArg Prod.fst (shX_K0 hX)) (C_old (d := d + 80) x y hl hX p8 S L C w (by omega) (by omega) ?_)
  cases e : qOld hd so x y with
  | some v =>
    refine ⟨k116, ?_⟩
    have jf : ∀ x k, x ≠ 116 → u2 J 116 0 v.toInt64 x k = J x k := fun x k z => u2_a _ _ _ _ z
    have hR' := XR_up (J' := u2 J 116 0 v.toInt64) hR (Nat.le_refl n) (fun _ _ => rfl) (fun x k z => jf x k (by omega))
    have hM' := MR_up (J' := u2 J 116 0 v.toInt64) hM (fun _ _ => rfl) (fun x k z => jf x k (by omega))
    refine M_old x y hM'.1 hM'.2.2.2.1 w ?_
    rw [e]
    exact hA _ _ _ _ _ _ _ ⟨k116, _, _, _, _, _, _, _, _, _, _, _, _, _, _, _, _, XR_md hR' (md_0 0), MR_0 0 hM'⟩ (grw_rf K n) (u2_s _ _ _ _) (fun _ => u2_s _ _ _ _)
  | none =>
    intro z hz
    have hR' := XR_up (K' := u1 K n (19, z)) (n' := n + 1) hR (by omega) u1_lt (fun _ _ _ => rfl)
    have hM' := MR_up (K' := u1 K n (19, z)) hM (fun x hx => u1_lt x (by omega)) (fun _ _ _ => rfl)
    refine M_old x y hM'.1 hM'.2.2.2.1 w ?_
    rw [e]
    refine hA _ _ _ _ _ _ _ ⟨(u1_lt _ hn).trans k116, _, _, _, _, _, _, _, _, _, _, _, _, _, _, _, _, XR_md (XR_md hR' (md_0 0)) (md_0 1), MR_0 1 (MR_0 0 hM')⟩ ⟨by omega, by omega, by rw [gS_new]; show gS K n + z ≤ _; omega⟩ (u2_s _ _ _ _) (fun q => absurd q (by decide))
theorem LS_mean (x y : Int32) (hl : G.1.stackTraces = false) (bu : bud K n) (h : INV I J P K n) (hA : ∀ k v I' J' P' K' n', INV I' J' P' K' n' → grw K K' n n' → I' 91 0 = k → (k = 0 → J' 116 0 = v.toInt64) → A k v I' J' P' K' n') : OkH G (d + 101) mL_mean 0 (entL 5 [.ref 0, .int x, .int y, .ref 116]) [] I J P K n (qI (fun k I1 J1 P1 K1 n1 => ckI G (d + 101) mX12_mean [.ref 91, .int x, .int y] I1 J1 P1 K1 n1 (fun v I2 J2 => A k v I2 J2 P1 K1 n1))) := by
  obtain ⟨k116, tl, tp, f, hd, nm, so, c, us, bm, row, ask, st, wr, tx, sn, im, hR, hM⟩ := h
  obtain ⟨hX, hn, hL, cs, nx, hh⟩ := id hR
  obtain ⟨a, l, p8, e0, oa, oL, S, L, N, C, w⟩ := XH_sC hh
  obtain ⟨b1, b2⟩ := id bu
  refine H_mean (d := d + 100) x y (congrArg Prod.fst (shX_K0 hX)) (C_mean (d := d + 80) x y hl hX p8 S L C w (by omega) (by omega) ?_)
  cases e : qMean hd so x y with
  | some v =>
    refine ⟨k116, ?_⟩
    have jf : ∀ x k, x ≠ 116 → u2 J 116 0 v.toInt64 x k = J x k := fun x k z => u2_a _ _ _ _ z
    have hR' := XR_up (J' := u2 J 116 0 v.toInt64) hR (Nat.le_refl n) (fun _ _ => rfl) (fun x k z => jf x k (by omega))
    have hM' := MR_up (J' := u2 J 116 0 v.toInt64) hM (fun _ _ => rfl) (fun x k z => jf x k (by omega))
    refine M_mean x y hM'.1 hM'.2.2.2.1 w ?_
    rw [e]
    exact hA _ _ _ _ _ _ _ ⟨k116, _, _, _, _, _, _, _, _, _, _, _, _, _, _, _, _, XR_md hR' (md_0 0), MR_0 0 hM'⟩ (grw_rf K n) (u2_s _ _ _ _) (fun _ => u2_s _ _ _ _)
  | none =>
    intro z hz
    have hR' := XR_up (K' := u1 K n (19, z)) (n' := n + 1) hR (by omega) u1_lt (fun _ _ _ => rfl)
    have hM' := MR_up (K' := u1 K n (19, z)) hM (fun x hx => u1_lt x (by omega)) (fun _ _ _ => rfl)
    refine M_mean x y hM'.1 hM'.2.2.2.1 w ?_
    rw [e]
    refine hA _ _ _ _ _ _ _ ⟨(u1_lt _ hn).trans k116, _, _, _, _, _, _, _, _, _, _, _, _, _, _, _, _, XR_md (XR_md hR' (md_0 0)) (md_0 1), MR_0 1 (MR_0 0 hM')⟩ ⟨by omega, by omega, by rw [gS_new]; show gS K n + z ≤ _; omega⟩ (u2_s _ _ _ _) (fun q => absurd q (by decide))
theorem LS_part (x y : Int32) (hl : G.1.stackTraces = false) (bu : bud K n) (h : INV I J P K n) (hA : ∀ k v I' J' P' K' n', INV I' J' P' K' n' → grw K K' n n' → I' 91 0 = k → (k = 0 → J' 116 0 = v.toInt64) → A k v I' J' P' K' n') : OkH G (d + 101) mL_part 0 (entL 5 [.ref 0, .int x, .int y, .ref 116]) [] I J P K n (qI (fun k I1 J1 P1 K1 n1 => ckI G (d + 101) mX12_part [.ref 91, .int x, .int y] I1 J1 P1 K1 n1 (fun v I2 J2 => A k v I2 J2 P1 K1 n1))) := by
  obtain ⟨k116, tl, tp, f, hd, nm, so, c, us, bm, row, ask, st, wr, tx, sn, im, hR, hM⟩ := h
  obtain ⟨hX, hn, hL, cs, nx, hh⟩ := id hR
  obtain ⟨a, l, p8, e0, oa, oL, S, L, N, C, w⟩ := XH_sC hh
  obtain ⟨b1, b2⟩ := id bu
  refine H_part (d := d + 100) x y (congrArg Prod.fst (shX_K0 hX)) (C_part (d := d + 80) x y hl hX p8 S L C w (by omega) (by omega) ?_)
  cases e : qPart hd so x y with
  | some v =>
    refine ⟨k116, ?_⟩
    have jf : ∀ x k, x ≠ 116 → u2 J 116 0 v.toInt64 x k = J x k := fun x k z => u2_a _ _ _ _ z
    have hR' := XR_up (J' := u2 J 116 0 v.toInt64) hR (Nat.le_refl n) (fun _ _ => rfl) (fun x k z => jf x k (by omega))
    have hM' := MR_up (J' := u2 J 116 0 v.toInt64) hM (fun _ _ => rfl) (fun x k z => jf x k (by omega))
    refine M_part x y hM'.1 hM'.2.2.2.1 w ?_
    rw [e]
    exact hA _ _ _ _ _ _ _ ⟨k116, _, _, _, _, _, _, _, _, _, _, _, _, _, _, _, _, XR_md hR' (md_0 0), MR_0 0 hM'⟩ (grw_rf K n) (u2_s _ _ _ _) (fun _ => u2_s _ _ _ _)
  | none =>
    intro z hz
    have hR' := XR_up (K' := u1 K n (19, z)) (n' := n + 1) hR (by omega) u1_lt (fun _ _ _ => rfl)
    have hM' := MR_up (K' := u1 K n (19, z)) hM (fun x hx => u1_lt x (by omega)) (fun _ _ _ => rfl)
    refine M_part x y hM'.1 hM'.2.2.2.1 w ?_
    rw [e]
    refine hA _ _ _ _ _ _ _ ⟨(u1_lt _ hn).trans k116, _, _, _, _, _, _, _, _, _, _, _, _, _, _, _, _, XR_md (XR_md hR' (md_0 0)) (md_0 1), MR_0 1 (MR_0 0 hM')⟩ ⟨by omega, by omega, by rw [gS_new]; show gS K n + z ≤ _; omega⟩ (u2_s _ _ _ _) (fun q => absurd q (by decide))
end LawX
