/-! the class: what is asked and may be refused -/
theorem lk_X11_178 : LkV RX11 178 mX1_agesOf 1 1 (RX1, TX1, 8) := ⟨miX1_agesOf, tbm 1209 (by decide +kernel) rfl, tbm 812 (by decide +kernel) rfl, (tbm 813 (by decide +kernel) rfl), rfl, by decide, rfl⟩
theorem lk_X11_191 : LkV RX11 191 mX1_agesOfScale 1 1 (RX1, TX1, 8) := ⟨miX1_agesOfScale, tbm 1220 (by decide +kernel) rfl, tbm 827 (by decide +kernel) rfl, (tbm 828 (by decide +kernel) rfl), rfl, by decide, rfl⟩
theorem bX11_litres_23 {G : gG} {d : Nat} {I : sI} {J : sJ} {P : sP} {K : sK} {n : Nat} {F : Int32 → sI → sJ → sP → sK → Nat → Prop} (hshX : shX P K) (x1 : Int32) (x2 : Int32) (h : ∃ b1, P 0 8 = some b1 ∧ shC P K b1 ∧ vp_in x1 20 ∧ vp_in x2 40 ∧ F (I (b1 + 2 + x1.toNatClampNeg) x2.toNatClampNeg) I J P K n) : Ok G (d + 1) mX11_litres 23 [some (.ref 0), some (.int x1), some (.int x2)] [] I J P K n (qI F) := (ok_aload_n dX11_litres_23 rfl (Exists.elim h (fun b1 e2 => (ok_getPV dX11_litres_24 fi_X11_79 rfl (congrArg Prod.fst (shX_K0 hshX)) e2.1 (ok_getPV dX11_litres_27 fi_X11_171 rfl (congrArg Prod.fst (shC_K e2.2.1)) (shC_P4 e2.2.1) (ok_iload_n dX11_litres_30 rfl (ok_aaloadV (shC_A4 e2.2.1) dX11_litres_31 e2.2.2.1 (shC_R e2.2.1 x1.toNatClampNeg (arr_lt e2.2.2.1)).1 (ok_iload_n dX11_litres_32 rfl (ok_ialoadV (I (b1 + 2 + x1.toNatClampNeg) x2.toNatClampNeg) (shC_R e2.2.1 x1.toNatClampNeg (arr_lt e2.2.2.1)).2 dX11_litres_33 e2.2.2.2.1 rfl (ok_ret dX11_litres_34 rfl rfl ⟨_, rfl, e2.2.2.2.2⟩))))))))))
theorem bX11_age_35 {G : gG} {d : Nat} {I : sI} {J : sJ} {P : sP} {K : sK} {n : Nat} {F : Int32 → sI → sJ → sP → sK → Nat → Prop} (hshX : shX P K) (x1 : Int32) (x2 : Int32) (h : ∃ b1, P 0 8 = some b1 ∧ shC P K b1 ∧ ckI G d mX1_agesOf [.ref b1, .int x1] I J P K n (fun v5 I3 J4 => ∃ b7, P 0 8 = some b7 ∧ shC P K b7 ∧ vp_in x1 20 ∧ ckI G d mX7_half [.int v5, .int (I3 (b7 + 22) x1.toNatClampNeg), .int x2] I3 J4 P K n (fun v11 I9 J10 => F v11 I9 J10 P K n))) : Ok G (d + 1) mX11_age 35 [some (.ref 0), some (.int x1), some (.int x2)] [] I J P K n (qI F) := (ok_aload_n dX11_age_35 rfl (Exists.elim h (fun b1 e2 => (ok_getPV dX11_age_36 fi_X11_79 rfl (congrArg Prod.fst (shX_K0 hshX)) e2.1 (ok_iload_n dX11_age_39 rfl (ok_VkI (As := [.int x1]) (rest := []) (b := b1) dX11_age_40 lk_X11_178 rfl rfl (Nat.le_of_ble_eq_true rfl) (Nat.le_of_ble_eq_true rfl) (congrArg Prod.fst (shC_K e2.2.1)) (ckI_mono (fun v5 I3 J4 h6 => (ok_aload_n dX11_age_43 rfl (Exists.elim h6 (fun b7 e8 => (ok_getPV dX11_age_44 fi_X11_79 rfl (congrArg Prod.fst (shX_K0 hshX)) e8.1 (ok_getPV dX11_age_47 fi_X11_144 rfl (congrArg Prod.fst (shC_K e8.2.1)) (shC_P5 e8.2.1) (ok_iload_n dX11_age_50 rfl (ok_ialoadV (I3 (b7 + 22) x1.toNatClampNeg) (shC_A5 e8.2.1) dX11_age_51 e8.2.2.1 rfl (ok_iload_n dX11_age_52 rfl (ok_SkI (As := [.int v5, .int (I3 (b7 + 22) x1.toNatClampNeg), .int x2]) (rest := []) dX11_age_53 lk_X11_181 rfl rfl (Nat.le_of_ble_eq_true rfl) (Nat.le_of_ble_eq_true rfl) (ckI_mono (fun v11 I9 J10 h12 => (ok_ret dX11_age_56 rfl rfl ⟨_, rfl, h12⟩)) e8.2.2.2))))))))))) e2.2.2)))))))
theorem bX11_old_34 {G : gG} {d : Nat} {I : sI} {J : sJ} {P : sP} {K : sK} {n : Nat} {F : Int32 → sI → sJ → sP → sK → Nat → Prop} (hshX : shX P K) (x1 : Int32) (x2 : Int32) (h : ∃ b1, P 0 8 = some b1 ∧ shC P K b1 ∧ ckI G d mX1_agesOfScale [.ref b1, .int x1] I J P K n (fun v5 I3 J4 => ∃ b7, P 0 8 = some b7 ∧ shC P K b7 ∧ ckI G d mX1_haveOfScale [.ref b7, .int x1] I3 J4 P K n (fun v11 I9 J10 => ckI G d mX7_half [.int v5, .int v11, .int x2] I9 J10 P K n (fun v15 I13 J14 => F v15 I13 J14 P K n)))) : Ok G (d + 1) mX11_old 34 [some (.ref 0), some (.int x1), some (.int x2)] [] I J P K n (qI F) := (ok_aload_n dX11_old_34 rfl (Exists.elim h (fun b1 e2 => (ok_getPV dX11_old_35 fi_X11_79 rfl (congrArg Prod.fst (shX_K0 hshX)) e2.1 (ok_iload_n dX11_old_38 rfl (ok_VkI (As := [.int x1]) (rest := []) (b := b1) dX11_old_39 lk_X11_191 rfl rfl (Nat.le_of_ble_eq_true rfl) (Nat.le_of_ble_eq_true rfl) (congrArg Prod.fst (shC_K e2.2.1)) (ckI_mono (fun v5 I3 J4 h6 => (ok_aload_n dX11_old_42 rfl (Exists.elim h6 (fun b7 e8 => (ok_getPV dX11_old_43 fi_X11_79 rfl (congrArg Prod.fst (shX_K0 hshX)) e8.1 (ok_iload_n dX11_old_46 rfl (ok_VkI (As := [.int x1]) (rest := [.int v5]) (b := b7) dX11_old_47 lk_X11_188 rfl rfl (Nat.le_of_ble_eq_true rfl) (Nat.le_of_ble_eq_true rfl) (congrArg Prod.fst (shC_K e8.2.1)) (ckI_mono (fun v11 I9 J10 h12 => (ok_iload_n dX11_old_50 rfl (ok_SkI (As := [.int v5, .int v11, .int x2]) (rest := []) dX11_old_51 lk_X11_181 rfl rfl (Nat.le_of_ble_eq_true rfl) (Nat.le_of_ble_eq_true rfl) (ckI_mono (fun v15 I13 J14 h16 => (ok_ret dX11_old_54 rfl rfl ⟨_, rfl, h16⟩)) h12)))) e8.2.2)))))))) e2.2.2)))))))
theorem bX11_mean_23 {G : gG} {d : Nat} {I : sI} {J : sJ} {P : sP} {K : sK} {n : Nat} {F : Int32 → sI → sJ → sP → sK → Nat → Prop} (hshX : shX P K) (x1 : Int32) (x2 : Int32) (h : ∃ b1, P 0 8 = some b1 ∧ shC P K b1 ∧ ckI G d mX1_haveOfScale [.ref b1, .int x1] I J P K n (fun v5 I3 J4 => ∃ b7, P 0 8 = some b7 ∧ shC P K b7 ∧ ∃ b9, P b7 0 = some b9 ∧ shL P K b9 ∧ vp_in x1 5 ∧ ckI G d mX7_half [.int v5, .int (I3 (b9 + 2) x1.toNatClampNeg), .int x2] I3 J4 P K n (fun v13 I11 J12 => F v13 I11 J12 P K n))) : Ok G (d + 1) mX11_mean 23 [some (.ref 0), some (.int x1), some (.int x2)] [] I J P K n (qI F) := (ok_aload_n dX11_mean_23 rfl (Exists.elim h (fun b1 e2 => (ok_getPV dX11_mean_24 fi_X11_79 rfl (congrArg Prod.fst (shX_K0 hshX)) e2.1 (ok_iload_n dX11_mean_27 rfl (ok_VkI (As := [.int x1]) (rest := []) (b := b1) dX11_mean_28 lk_X11_188 rfl rfl (Nat.le_of_ble_eq_true rfl) (Nat.le_of_ble_eq_true rfl) (congrArg Prod.fst (shC_K e2.2.1)) (ckI_mono (fun v5 I3 J4 h6 => (ok_aload_n dX11_mean_31 rfl (Exists.elim h6 (fun b7 e8 => (ok_getPV dX11_mean_32 fi_X11_79 rfl (congrArg Prod.fst (shX_K0 hshX)) e8.1 (Exists.elim e8.2.2 (fun b9 e10 => (ok_getPV dX11_mean_35 fi_X11_133 rfl (congrArg Prod.fst (shC_K e8.2.1)) e10.1 (ok_getPV dX11_mean_38 fi_X11_289 rfl (congrArg Prod.fst (shL_K e10.2.1)) (shL_P6 e10.2.1) (ok_iload_n dX11_mean_41 rfl (ok_ialoadV (I3 (b9 + 2) x1.toNatClampNeg) (shL_A6 e10.2.1) dX11_mean_42 e10.2.2.1 rfl (ok_iload_n dX11_mean_43 rfl (ok_SkI (As := [.int v5, .int (I3 (b9 + 2) x1.toNatClampNeg), .int x2]) (rest := []) dX11_mean_44 lk_X11_181 rfl rfl (Nat.le_of_ble_eq_true rfl) (Nat.le_of_ble_eq_true rfl) (ckI_mono (fun v13 I11 J12 h14 => (ok_ret dX11_mean_47 rfl rfl ⟨_, rfl, h14⟩)) e10.2.2.2)))))))))))))) e2.2.2)))))))
theorem bX11_part_33 {G : gG} {d : Nat} {I : sI} {J : sJ} {P : sP} {K : sK} {n : Nat} {F : Int32 → sI → sJ → sP → sK → Nat → Prop} (hshX : shX P K) (x1 : Int32) (x2 : Int32) (h : ∃ b1, P 0 8 = some b1 ∧ shC P K b1 ∧ ckI G d mX1_haveOfScale [.ref b1, .int x1] I J P K n (fun v5 I3 J4 => ∃ b7, P 0 8 = some b7 ∧ shC P K b7 ∧ ckI G d mX1_haveInAll [.ref b7] I3 J4 P K n (fun v11 I9 J10 => ckI G d mX7_half [.int v5, .int v11, .int x2] I9 J10 P K n (fun v15 I13 J14 => F v15 I13 J14 P K n)))) : Ok G (d + 1) mX11_part 33 [some (.ref 0), some (.int x1), some (.int x2)] [] I J P K n (qI F) := (ok_aload_n dX11_part_33 rfl (Exists.elim h (fun b1 e2 => (ok_getPV dX11_part_34 fi_X11_79 rfl (congrArg Prod.fst (shX_K0 hshX)) e2.1 (ok_iload_n dX11_part_37 rfl (ok_VkI (As := [.int x1]) (rest := []) (b := b1) dX11_part_38 lk_X11_188 rfl rfl (Nat.le_of_ble_eq_true rfl) (Nat.le_of_ble_eq_true rfl) (congrArg Prod.fst (shC_K e2.2.1)) (ckI_mono (fun v5 I3 J4 h6 => (ok_aload_n dX11_part_41 rfl (Exists.elim h6 (fun b7 e8 => (ok_getPV dX11_part_42 fi_X11_79 rfl (congrArg Prod.fst (shX_K0 hshX)) e8.1 (ok_VkI (As := []) (rest := [.int v5]) (b := b7) dX11_part_45 lk_X11_197 rfl rfl (Nat.le_of_ble_eq_true rfl) (Nat.le_of_ble_eq_true rfl) (congrArg Prod.fst (shC_K e8.2.1)) (ckI_mono (fun v11 I9 J10 h12 => (ok_iload_n dX11_part_48 rfl (ok_SkI (As := [.int v5, .int v11, .int x2]) (rest := []) dX11_part_49 lk_X11_181 rfl rfl (Nat.le_of_ble_eq_true rfl) (Nat.le_of_ble_eq_true rfl) (ckI_mono (fun v15 I13 J14 h16 => (ok_ret dX11_part_52 rfl rfl ⟨_, rfl, h16⟩)) h12)))) e8.2.2))))))) e2.2.2)))))))
def refX (q : Option Int32) (F : Int32 → sI → sJ → sP → sK → Nat → Prop) (Z : gX) (I : sI) (J : sJ) (P : sP) (K : sK) (n : Nat) : Prop := match q with
  | some v => F v I J P K n
  | none => ∀ z, z ≤ 6 → Z I J P (u1 K n (19, z)) (n + 1)
section AskX
variable {G : gG} {d : Nat} {I : sI} {J : sJ} {P : sP} {K : sK} {n : Nat} {F : Int32 → sI → sJ → sP → sK → Nat → Prop} {FK : Int32 → sI → sJ → Prop} {Z : gX} {hd so : Nat → Nat} {c l : Nat}
theorem C_noHalf (x : Int32) (h : FK (b01 (!inB x 2)) I J) : ckI G d mX11_noHalf [.int x] I J P K n FK := by
  refine bX11_noHalf_0 _ ?_
  cases e : inB x 2 with
  | true =>
    rw [e] at h
    obtain ⟨j, hj, rfl⟩ := inB_t e
    have : j = 0 ∨ j = 1 := by omega
    rcases this with q | q
    · subst q; exact ⟨fun _ => h, fun z => absurd rfl z⟩
    · subst q; exact ⟨fun z => absurd z (by decide), fun _ => ⟨fun _ => h, fun z => absurd rfl z⟩⟩
  | false =>
    rw [e] at h
    refine ⟨fun z => ?_, fun _ => ⟨fun z => ?_, fun _ => h⟩⟩
    · exact absurd z (inB_f e (k := 0) (by decide) (by decide))
    · exact absurd z (inB_f e (k := 1) (by decide) (by decide))
theorem C_litres (x y : Int32) (hl : G.1.stackTraces = false) (hX : shX P K) (h8 : P 0 8 = some c) (S : sC P K c l) (Y : rL I l hd) (C : rC I c hd so) (w : wf hd so) (c1 : n + 1 ≤ 601024) (c2 : gS K n + 6 ≤ 7293034) (h : refX (qLitres hd so x y) F Z I J P K n) : OkX G (d + 20) mX11_litres 0 (entL 3 [.ref 0, .int x, .int y]) [] I J P K n (qI F) Z := by
  have hcs := wf_casks w
  have h05 := w.1
  unfold qLitres at h
  have hT : (∀ z, z ≤ 6 → Z I J P (u1 K n (19, z)) (n + 1)) → OkX G (d + 20) mX11_litres 15 (entL 3 [.ref 0, .int x, .int y]) [] I J P K n (qI F) Z := fun q => okX_throw (d := d + 10) hl rfl dX11_litres_15 dX11_litres_18 dX11_litres_19 dX11_litres_22 c1 c2 q
  refine okX_aload_n dX11_litres_0 rfl (okX_iload_n dX11_litres_1 rfl (okX_VkI (d := d + 19) (As := [.int x]) (rest := []) (b := 0) dX11_litres_2 lk_X11_129 rfl rfl (Nat.le_of_ble_eq_true rfl) (Nat.le_of_ble_eq_true rfl) (congrArg Prod.fst (shX_K0 hX)) (C_noCask x hX h8 S Y w ?_)))
  refine okX_if_ne 15 dX11_litres_5 (by decide) (b01n (fun e => ?_) (fun e => hT (by rw [ng' e] at h; exact h)))
  have e0 := ng e
  obtain ⟨k, hk, rfl⟩ := inB_t e0
  rw [e0, cl_nI (by omega)] at h
  refine okX_iload_n dX11_litres_8 rfl (okX_SkI (d := d + 19) (As := [.int y]) (rest := []) dX11_litres_9 lk_X11_165 rfl rfl (Nat.le_of_ble_eq_true rfl) (Nat.le_of_ble_eq_true rfl) (C_noVint y ?_))
  refine okX_if_eq 23 dX11_litres_12 (by decide) (b01n (fun e => ?_) (fun e => hT (by rw [ng' e] at h; exact h)))
  have e1 := ng e
  obtain ⟨v, hv, rfl⟩ := inB_t e1
  rw [e1, cl_nI (by omega)] at h
  refine okX_of (bX11_litres_23 (d := d + 19) hX _ _ ⟨c, h8, S.1, nI_inN (by omega) (by decide), nI_inN hv (by decide), ?_⟩)
  rw [nI_ck (show k < 2147483648 by omega), nI_ck (show v < 2147483648 by omega), C.2.2.2.1 k v hk hv]
  exact h
theorem C_age (x y : Int32) (hl : G.1.stackTraces = false) (hX : shX P K) (h8 : P 0 8 = some c) (S : sC P K c l) (Y : rL I l hd) (C : rC I c hd so) (w : wf hd so) (c1 : n + 1 ≤ 601024) (c2 : gS K n + 6 ≤ 7293034) (h : refX (qAge hd so x y) F Z I J P K n) : OkX G (d + 20) mX11_age 0 (entL 3 [.ref 0, .int x, .int y]) [] I J P K n (qI F) Z := by
  have hcs := wf_casks w
  have h05 := w.1
  unfold qAge at h
  have hT : (∀ z, z ≤ 6 → Z I J P (u1 K n (19, z)) (n + 1)) → OkX G (d + 20) mX11_age 27 (entL 3 [.ref 0, .int x, .int y]) [] I J P K n (qI F) Z := fun q => okX_throw (d := d + 10) hl rfl dX11_age_27 dX11_age_30 dX11_age_31 dX11_age_34 c1 c2 q
  refine okX_aload_n dX11_age_0 rfl (okX_iload_n dX11_age_1 rfl (okX_VkI (d := d + 19) (As := [.int x]) (rest := []) (b := 0) dX11_age_2 lk_X11_129 rfl rfl (Nat.le_of_ble_eq_true rfl) (Nat.le_of_ble_eq_true rfl) (congrArg Prod.fst (shX_K0 hX)) (C_noCask x hX h8 S Y w ?_)))
  refine okX_if_ne 27 dX11_age_5 (by decide) (b01n (fun e => ?_) (fun e => hT (by rw [ng' e] at h; exact h)))
  have e0 := ng e
  obtain ⟨k, hk, rfl⟩ := inB_t e0
  rw [e0, cl_nI (by omega)] at h
  refine okX_iload_n dX11_age_8 rfl (okX_SkI (d := d + 19) (As := [.int y]) (rest := []) dX11_age_9 lk_X11_175 rfl rfl (Nat.le_of_ble_eq_true rfl) (Nat.le_of_ble_eq_true rfl) (C_noHalf y ?_))
  refine okX_if_ne 27 dX11_age_12 (by decide) (b01n (fun e => ?_) (fun e => hT (by rw [ng' e] at h; exact h)))
  have e1 := ng e
  rw [e1] at h
  have hlt := wf_ltr w hk
  have hag := ags_le w hk
  have hh : I (c + 22) k = nI (ltr so k) := (C.2.2.2.2.1 k hk).1
  have k22 := shC_A5 S.1
  refine okX_aload_n dX11_age_15 rfl (okX_getP dX11_age_16 fi_X11_79 rfl ⟨congrArg Prod.fst (shX_K0 hX), c, h8, okX_getP dX11_age_19 fi_X11_144 rfl ⟨congrArg Prod.fst (shC_K S.1), c + 22, shC_P5 S.1, okX_iload_n dX11_age_22 rfl (okX_iaload dX11_age_23 ⟨congrArg Prod.fst k22, by rw [k22]; exact nI_inN (by omega) (by decide), ?_⟩)⟩⟩)
  rw [nI_ck (show k < 2147483648 by omega), hh]
  refine okX_if_ne 35 dX11_age_24 (by decide) ⟨fun z => hT ?_, fun z => ?_⟩
  · have : ltr so k = 0 := (nI_eq (b := 0) (by omega) (by decide)).mp z
    rw [this] at h
    simp only [Nat.lt_irrefl, decide_false, Bool.and_false] at h
    exact h
  · have hp : 0 < ltr so k := Nat.pos_of_ne_zero (fun q => z (by rw [q]; rfl))
    simp only [hp, decide_true, Bool.and_self, if_true] at h
    refine okX_of (bX11_age_35 (d := d + 19) hX _ _ ⟨c, h8, S.1, C_agesOf (d := d + 18) S C w hk ⟨c, h8, S.1, nI_inN (by omega) (by decide), ?_⟩⟩)
    rw [nI_ck (show k < 2147483648 by omega), hh]
    exact C_half e1 (by omega) (by omega) hp h
theorem C_old (x y : Int32) (hl : G.1.stackTraces = false) (hX : shX P K) (h8 : P 0 8 = some c) (S : sC P K c l) (Y : rL I l hd) (C : rC I c hd so) (w : wf hd so) (c1 : n + 1 ≤ 601024) (c2 : gS K n + 6 ≤ 7293034) (h : refX (qOld hd so x y) F Z I J P K n) : OkX G (d + 20) mX11_old 0 (entL 3 [.ref 0, .int x, .int y]) [] I J P K n (qI F) Z := by
  have hcs := wf_casks w
  have h05 := w.1
  unfold qOld at h
  have hT : (∀ z, z ≤ 6 → Z I J P (u1 K n (19, z)) (n + 1)) → OkX G (d + 20) mX11_old 26 (entL 3 [.ref 0, .int x, .int y]) [] I J P K n (qI F) Z := fun q => okX_throw (d := d + 10) hl rfl dX11_old_26 dX11_old_29 dX11_old_30 dX11_old_33 c1 c2 q
  refine okX_aload_n dX11_old_0 rfl (okX_iload_n dX11_old_1 rfl (okX_VkI (d := d + 19) (As := [.int x]) (rest := []) (b := 0) dX11_old_2 lk_X11_185 rfl rfl (Nat.le_of_ble_eq_true rfl) (Nat.le_of_ble_eq_true rfl) (congrArg Prod.fst (shX_K0 hX)) (C_noScale x hX h8 S Y w ?_)))
  refine okX_if_ne 26 dX11_old_5 (by decide) (b01n (fun e => ?_) (fun e => hT (by rw [ng' e] at h; exact h)))
  have e0 := ng e
  obtain ⟨k, hk, rfl⟩ := inB_t e0
  rw [e0, cl_nI (by omega)] at h
  refine okX_iload_n dX11_old_8 rfl (okX_SkI (d := d + 19) (As := [.int y]) (rest := []) dX11_old_9 lk_X11_175 rfl rfl (Nat.le_of_ble_eq_true rfl) (Nat.le_of_ble_eq_true rfl) (C_noHalf y ?_))
  refine okX_if_ne 26 dX11_old_12 (by decide) (b01n (fun e => ?_) (fun e => hT (by rw [ng' e] at h; exact h)))
  have e1 := ng e
  rw [e1] at h
  have hlt := ssc_le w hk (f := ltr so) (fun k hk => wf_ltr w hk)
  have hag := ssc_ags w hk
  refine okX_aload_n dX11_old_15 rfl (okX_getP dX11_old_16 fi_X11_79 rfl ⟨congrArg Prod.fst (shX_K0 hX), c, h8, okX_iload_n dX11_old_19 rfl (okX_VkI (d := d + 19) (As := [.int (nI k)]) (rest := []) (b := c) dX11_old_20 lk_X11_188 rfl rfl (Nat.le_of_ble_eq_true rfl) (Nat.le_of_ble_eq_true rfl) (congrArg Prod.fst (shC_K S.1)) (C_haveOfScale S Y C w hk ?_))⟩)
  refine okX_if_ne 34 dX11_old_23 (by decide) ⟨fun z => hT ?_, fun z => ?_⟩
  · have : ssc hd (ltr so) k = 0 := (nI_eq (b := 0) (by omega) (by decide)).mp z
    rw [this] at h
    simp only [Nat.lt_irrefl, decide_false, Bool.and_false] at h
    exact h
  · have hp : 0 < ssc hd (ltr so) k := Nat.pos_of_ne_zero (fun q => z (by rw [q]; rfl))
    simp only [hp, decide_true, Bool.and_self, if_true] at h
    exact okX_of (bX11_old_34 (d := d + 19) hX _ _ ⟨c, h8, S.1, C_agesOfScale (d := d + 17) S Y C w hk ⟨c, h8, S.1, C_haveOfScale S Y C w hk (C_half e1 (by omega) (by omega) hp h)⟩⟩)
theorem C_mean (x y : Int32) (hl : G.1.stackTraces = false) (hX : shX P K) (h8 : P 0 8 = some c) (S : sC P K c l) (Y : rL I l hd) (C : rC I c hd so) (w : wf hd so) (c1 : n + 1 ≤ 601024) (c2 : gS K n + 6 ≤ 7293034) (h : refX (qMean hd so x y) F Z I J P K n) : OkX G (d + 20) mX11_mean 0 (entL 3 [.ref 0, .int x, .int y]) [] I J P K n (qI F) Z := by
  have hcs := wf_casks w
  have h05 := w.1
  unfold qMean at h
  have hT : (∀ z, z ≤ 6 → Z I J P (u1 K n (19, z)) (n + 1)) → OkX G (d + 20) mX11_mean 15 (entL 3 [.ref 0, .int x, .int y]) [] I J P K n (qI F) Z := fun q => okX_throw (d := d + 10) hl rfl dX11_mean_15 dX11_mean_18 dX11_mean_19 dX11_mean_22 c1 c2 q
  refine okX_aload_n dX11_mean_0 rfl (okX_iload_n dX11_mean_1 rfl (okX_VkI (d := d + 19) (As := [.int x]) (rest := []) (b := 0) dX11_mean_2 lk_X11_185 rfl rfl (Nat.le_of_ble_eq_true rfl) (Nat.le_of_ble_eq_true rfl) (congrArg Prod.fst (shX_K0 hX)) (C_noScale x hX h8 S Y w ?_)))
  refine okX_if_ne 15 dX11_mean_5 (by decide) (b01n (fun e => ?_) (fun e => hT (by rw [ng' e] at h; exact h)))
  have e0 := ng e
  obtain ⟨k, hk, rfl⟩ := inB_t e0
  rw [e0, cl_nI (by omega)] at h
  refine okX_iload_n dX11_mean_8 rfl (okX_SkI (d := d + 19) (As := [.int y]) (rest := []) dX11_mean_9 lk_X11_175 rfl rfl (Nat.le_of_ble_eq_true rfl) (Nat.le_of_ble_eq_true rfl) (C_noHalf y ?_))
  refine okX_if_eq 23 dX11_mean_12 (by decide) (b01n (fun e => ?_) (fun e => hT (by rw [ng' e] at h; exact h)))
  have e1 := ng e
  rw [e1] at h
  have hlt := ssc_le w hk (f := ltr so) (fun k hk => wf_ltr w hk)
  obtain ⟨z1, z2, -⟩ := w.2.1 k hk
  refine okX_of (bX11_mean_23 (d := d + 19) hX _ _ ⟨c, h8, S.1, C_haveOfScale S Y C w hk ⟨c, h8, S.1, l, S.2.1, S.2.2.1, nI_inN (by omega) (by decide), ?_⟩⟩)
  rw [nI_ck (show k < 2147483648 by omega), (Y.2.1 k hk).1]
  exact C_half e1 (by omega) (by omega) (by omega) h
theorem C_part (x y : Int32) (hl : G.1.stackTraces = false) (hX : shX P K) (h8 : P 0 8 = some c) (S : sC P K c l) (Y : rL I l hd) (C : rC I c hd so) (w : wf hd so) (c1 : n + 1 ≤ 601024) (c2 : gS K n + 6 ≤ 7293034) (h : refX (qPart hd so x y) F Z I J P K n) : OkX G (d + 20) mX11_part 0 (entL 3 [.ref 0, .int x, .int y]) [] I J P K n (qI F) Z := by
  have hcs := wf_casks w
  have h05 := w.1
  unfold qPart at h
  have hT : (∀ z, z ≤ 6 → Z I J P (u1 K n (19, z)) (n + 1)) → OkX G (d + 20) mX11_part 25 (entL 3 [.ref 0, .int x, .int y]) [] I J P K n (qI F) Z := fun q => okX_throw (d := d + 10) hl rfl dX11_part_25 dX11_part_28 dX11_part_29 dX11_part_32 c1 c2 q
  refine okX_aload_n dX11_part_0 rfl (okX_iload_n dX11_part_1 rfl (okX_VkI (d := d + 19) (As := [.int x]) (rest := []) (b := 0) dX11_part_2 lk_X11_185 rfl rfl (Nat.le_of_ble_eq_true rfl) (Nat.le_of_ble_eq_true rfl) (congrArg Prod.fst (shX_K0 hX)) (C_noScale x hX h8 S Y w ?_)))
  refine okX_if_ne 25 dX11_part_5 (by decide) (b01n (fun e => ?_) (fun e => hT (by rw [ng' e] at h; exact h)))
  have e0 := ng e
  obtain ⟨k, hk, rfl⟩ := inB_t e0
  rw [e0, cl_nI (by omega)] at h
  refine okX_iload_n dX11_part_8 rfl (okX_SkI (d := d + 19) (As := [.int y]) (rest := []) dX11_part_9 lk_X11_175 rfl rfl (Nat.le_of_ble_eq_true rfl) (Nat.le_of_ble_eq_true rfl) (C_noHalf y ?_))
  refine okX_if_ne 25 dX11_part_12 (by decide) (b01n (fun e => ?_) (fun e => hT (by rw [ng' e] at h; exact h)))
  have e1 := ng e
  rw [e1] at h
  have hlt := ssc_le w hk (f := ltr so) (fun k hk => wf_ltr w hk)
  have hal := all_le w
  refine okX_aload_n dX11_part_15 rfl (okX_getP dX11_part_16 fi_X11_79 rfl ⟨congrArg Prod.fst (shX_K0 hX), c, h8, okX_VkI (d := d + 19) (As := []) (rest := []) (b := c) dX11_part_19 lk_X11_197 rfl rfl (Nat.le_of_ble_eq_true rfl) (Nat.le_of_ble_eq_true rfl) (congrArg Prod.fst (shC_K S.1)) (C_haveInAll S Y C w ?_)⟩)
  refine okX_if_ne 33 dX11_part_22 (by decide) ⟨fun z => hT ?_, fun z => ?_⟩
  · have : sm (ltr so) (hd 1) = 0 := (nI_eq (b := 0) (by omega) (by decide)).mp z
    rw [this] at h
    simp only [Nat.lt_irrefl, decide_false, Bool.and_false] at h
    exact h
  · have hp : 0 < sm (ltr so) (hd 1) := Nat.pos_of_ne_zero (fun q => z (by rw [q]; rfl))
    simp only [hp, decide_true, Bool.and_self, if_true] at h
    exact okX_of (bX11_part_33 (d := d + 19) hX _ _ ⟨c, h8, S.1, C_haveOfScale S Y C w hk ⟨c, h8, S.1, C_haveInAll S Y C w (C_half e1 (by omega) (by omega) hp h)⟩⟩)
end AskX
