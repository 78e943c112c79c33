/-! the class: ripe, plan, odds, which, store, blend, told, feed, end, tag -/
section AskX
variable {G : gG} {d : Nat} {I I' I1 I2 : sI} {J J' : sJ} {P P' P1 P2 : sP} {K K' : sK} {n n' : Nat} {cs cs' : Nat → Option Nat} {a b nx : Nat} {F : Int32 → sI → sJ → sP → sK → Nat → Prop} {FK : Int32 → sI → sJ → Prop}
variable {tl : Nat} {tp : Nat → Nat} {f : Int32} {hd so : Nat → Nat} {nm : Nat → List Nat} {c : Nat} {us : Nat → Nat → Nat} {bm : Nat} {row : Nat → Nat} {ask st : Int32} {wr : Option (Nat → Int32)} {tx : List Nat} {sn : Option (List itT)} {im : Nat → Option imT}
theorem XHt_c {sx : Nat → Nat} (h : XHt cs nx b sx I1 J P1 K n hd nm so c us sn im) (g1 : 34 < b) (f2 : frCh b I1 I2) : XHc cs nx I2 J P1 K n hd nm so c us sn im := by
  unfold frCh dT at f2
  exact XHc_mv h.1 h.2.1 ⟨fun x k h1 _ h3 => ⟨f2 x k (by omega) (by omega), rfl⟩, fun _ _ _ _ _ => rfl, fun _ _ => rfl⟩ (fun _ _ _ _ => rfl) (f2 _ _ (by omega) (by omega)) (f2 _ _ (by omega) (by omega)) (Nat.le_refl _)
theorem X_same {sx : Nat → Nat} (h : XR I J P K n tl tp f hd nm so c us bm row ask st wr tx sn im) (hX1 : shX P1 K) (T : XHt cs nx b sx I1 J P1 K n hd nm so c us sn im) (f1 : ∀ x k, ¬ (b ≤ x ∧ x ≤ b + 24) → I1 x k = I x k) (p1 : ∀ x k, ¬ (x = b ∧ k = 0) → P1 x k = P x k) (g1 : 34 < b) (g2 : b + 24 < 91 ∨ 116 < b) (f2 : frCh b I1 I2) : XR I2 J P1 K n tl tp f hd nm so c us bm row ask st wr tx sn im ∧ stX I I2 J J P P1 K K n n := X_fin h g1 g2 f1 p1 f2 hX1 ⟨cs, nx, XHt_c T g1 f2⟩ kpA_rf
theorem stX_tr0 (h : stX I I1 J J P P1 K K n n) (h2 : stX I1 I2 J J P1 P2 K K n n) : stX I I2 J J P P2 K K n n := ⟨fun x k a b => ⟨(h2.1 x k a b).1.trans (h.1 x k a b).1, rfl, (h2.1 x k a b).2.2.trans (h.1 x k a b).2.2⟩, fun _ _ => rfl, Nat.le_refl _, by omega, by omega⟩
theorem X_ripe (x y : Int32) (h : XR I J P K n tl tp f hd nm so c us bm row ask st wr tx sn im) (hF : ∀ I' J' P' K' n', XR I' J' P' K' n' tl tp f hd nm so c us bm row ask st wr tx sn im → stX I I' J J' P P' K K' n n' → F (vRipe hd so x y) I' J' P' K' n') : cqI G (d + 5) mX11_ripe [.ref 0, .int x, .int y] I J P K n F := by
  obtain ⟨hX, hn, -, cs, nx, hh⟩ := id h
  obtain ⟨a, l, p8, e0, oa, oL, S, L, N, C, w⟩ := XH_sC hh
  have hcs := wf_casks w
  unfold vRipe at hF
  have no : (inB x (hd 1) && inB y 40) = false → F (-1) I J P K n := fun e => by
    rw [e, Bool.false_and] at hF
    exact hF _ _ _ _ _ h stX_rf
  refine bX11_ripe_0 hX _ _ (C_noCask x hX p8 S L w (b01n (fun e => C_noVint y (b01n (fun e2 => ?_) (fun e2 => no (by rw [ng' e2, Bool.and_false])))) (fun e => no (by rw [ng' e]; rfl))))
  rw [ng e, ng e2] at hF
  obtain ⟨k, hk, rfl⟩ := inB_t (ng e)
  obtain ⟨v, hv, rfl⟩ := inB_t (ng e2)
  rw [cl_nI (by omega), cl_nI (by omega)] at hF
  refine X_copyK h (fun cs nx b I1 P1 hX1 T f1 q1 g1 g2 => ?_)
  obtain ⟨pb, ob, l1, oL1, S1, L1, N1, C1, w1⟩ := XHt_sC T
  obtain ⟨k0, k4, k21, k10⟩ := low4 hX1
  refine ⟨k0, 10, shX_P0_5 hX1, k0, b, pb, k0, 4, shX_P0_4 hX1, k10, C_ripe hX1 S1 L1 C1 w hk hv (fun I2 f2 => ?_)⟩
  obtain ⟨r1, r2⟩ := X_same h hX1 T f1 q1 g1 g2 (frCh_C f2)
  have := hF _ _ _ _ _ r1 r2
  by_cases q : ltr so k = 0
  · rw [if_pos q]
    rw [show decide (ltr so k ≠ 0) = false from decide_eq_false (fun z => z q)] at this
    exact this
  · rw [if_neg q]
    rw [show decide (ltr so k ≠ 0) = true from decide_eq_true q] at this
    exact this
theorem X_plan (x y : Int32) (h : XR I J P K n tl tp f hd nm so c us bm row ask st wr tx sn im) (hF : ∀ I' J' P' K' n', XR I' J' P' K' n' tl tp f hd nm so c us bm row ask st wr tx sn im → stX I I' J J' P P' K K' n n' → F (vPlan hd so x y) I' J' P' K' n') : cqI G (d + 7) mX11_plan [.ref 0, .int x, .int y] I J P K n F := by
  obtain ⟨hX, hn, -, cs, nx, hh⟩ := id h
  obtain ⟨a, l, p8, e0, oa, oL, S, L, N, C, w⟩ := XH_sC hh
  have hcs := wf_casks w
  unfold vPlan at hF
  have no : (isB x 0 400 && inB y 40) = false → F (-1) I J P K n := fun e => by
    rw [Bool.and_assoc, e, Bool.and_false] at hF
    exact hF _ _ _ _ _ h stX_rf
  refine bX11_plan_0 hX _ _ (isB_br' (fun e => C_noVint y (b01n (fun e2 => ?_) (fun e2 => no (by rw [ng' e2, Bool.and_false])))) (fun e => no (by rw [e]; rfl)))
  rw [e, ng e2] at hF
  obtain ⟨m, -, hm, rfl⟩ := isB_t (a := 0) (b := 400) (by decide) (by decide) e
  obtain ⟨v, hv, rfl⟩ := inB_t (ng e2)
  rw [cl_nI (by omega), cl_nI (by omega)] at hF
  refine X_copyK h (fun cs nx b I1 P1 hX1 T f1 q1 g1 g2 => ?_)
  obtain ⟨pb, ob, l1, oL1, S1, L1, N1, C1, w1⟩ := XHt_sC T
  obtain ⟨k0, k4, k21, k10⟩ := low4 hX1
  refine ⟨k0, 10, shX_P0_5 hX1, k0, b, pb, k0, 4, shX_P0_4 hX1, k10, C_plan hm hX1 S1 L1 C1 w hv (fun I2 f2 => ?_)⟩
  obtain ⟨r1, r2⟩ := X_same h hX1 T f1 q1 g1 g2 (frCh_C f2)
  have := hF _ _ _ _ _ r1 r2
  by_cases q : hd 0 = 0
  · rw [if_pos q]
    rw [show decide (hd 0 ≠ 0) = false from decide_eq_false (fun z => z q)] at this
    exact this
  · rw [if_neg q]
    rw [show decide (hd 0 ≠ 0) = true from decide_eq_true q] at this
    exact this
theorem X_odds {nx' : Int32 → Int32} (hnx : ∀ s : Int32, nx' s = s * 1103515245 + 12345) (x y z : Int32) (h : XR I J P K n tl tp f hd nm so c us bm row ask st wr tx sn im) (hF : ∀ I' J' P' K' n', XR I' J' P' K' n' tl tp f hd nm so c us bm row ask st wr tx sn im → stX I I' J J' P P' K K' n n' → F (vOdds nx' hd so x y z) I' J' P' K' n') : cqI G (d + 7) mX11_odds [.ref 0, .int x, .int y, .int z] I J P K n F := by
  obtain ⟨hX, hn, -, cs, nx, hh⟩ := id h
  obtain ⟨a, l, p8, e0, oa, oL, S, L, N, C, w⟩ := XH_sC hh
  have hcs := wf_casks w
  unfold vOdds at hF
  have no : (inB x (hd 1) && isB y 1 20) = false → F (-1) I J P K n := fun e => by
    rw [e] at hF
    exact hF _ _ _ _ _ h stX_rf
  refine bX11_odds_0 hX _ _ _ (C_noCask x hX p8 S L w (b01n (fun e => isB_br (fun e2 => ?_) (fun e2 => no (by rw [e2, Bool.and_false]))) (fun e => no (by rw [ng' e]; rfl))))
  rw [ng e, e2] at hF
  obtain ⟨k, hk, rfl⟩ := inB_t (ng e)
  obtain ⟨m, hm1, hm2, rfl⟩ := isB_t (a := 1) (b := 20) (by decide) (by decide) e2
  rw [cl_nI (by omega), cl_nI (by omega)] at hF
  have lp : ∀ (r j : Nat) (I0 : sI) (P0 : sP), j + r = m → XR I0 J P0 K n tl tp f hd nm so c us bm row ask st wr tx sn im → stX I I0 J J P P0 K K n n → Ok G (d + 7) mX11_odds 27 [some (.ref 0), some (.int (nI k)), some (.int (nI m)), some (.int z), some (.int (nI (sm (fun i => if oddB nx' hd so k z i then 1 else 0) j))), some (.int (nI j))] [] I0 J P0 K n (qI F) := by
    intro r
    induction r with
    | zero =>
      intro j I0 P0 hj hR hS
      have : j = m := by omega
      subst this
      exact bX11_odds_27 hR.1 _ _ _ _ _ (br_t (nI_le (Nat.le_refl _) (by omega)) (hF _ _ _ _ _ hR hS))
    | succ r ih =>
      intro j I0 P0 hj hR hS
      refine bX11_odds_27 hR.1 _ _ _ _ _ (br_f (nI_ge (by omega) (by omega)) (X_copyK hR (fun cs nx b I1 P1 hX1 T f1 q1 g1 g2 => ?_)))
      obtain ⟨pb, ob, l1, oL1, S1, L1, N1, C1, w1⟩ := XHt_sC T
      obtain ⟨k0, k4, k21, k10⟩ := low4 hX1
      refine ⟨k0, 21, shX_P0_6 hX1, k0, b, pb, k0, 4, shX_P0_4 hX1, k21, C_chYears (m := 3) (z + nI j) (by decide) hnx hX1 S1 L1 C1 w (fun I2 C2 f2 => ?_)⟩
      have wd : wf hd (pkYs nx' hd (if 3 ≤ 39 - so 0 then 3 else 39 - so 0) (z + nI j, so)).2 := (pkYs_inv (p := (z + nI j, so)) w (m := 39 - so 0) (by have := w.2.2.2.2.2.2.1; show so 0 + _ ≤ 39; omega) _ (by split <;> omega)).1
      have L2 := rL_frCh S1 L1 f2
      obtain ⟨r1, r2⟩ := X_same hR hX1 T f1 q1 g1 g2 f2
      refine ⟨k0, b, pb, by rw [shC_K S1.1], C_lackOf S1 L2 C2 wd hk ?_⟩
      have e3 : ∀ o : Bool, oddB nx' hd so k z j = o → nI (sm (fun i => if oddB nx' hd so k z i then 1 else 0) (j + 1)) = nI (sm (fun i => if oddB nx' hd so k z i then 1 else 0) j + (if o then 1 else 0)) := fun o e => by
        show nI (sm _ j + (if oddB nx' hd so k z j then 1 else 0)) = _
        rw [e]
      have step := ih (j + 1) I2 P1 (by omega) r1 (stX_tr0 hS r2)
      rw [nI_1, nI_1]
      refine ⟨fun q => ?_, fun q => ?_⟩
      · have : lck hd (pkYs nx' hd (if 3 ≤ 39 - so 0 then 3 else 39 - so 0) (z + nI j, so)).2 k = 0 := (nI_eq (b := 0) (by have := (wf_hol wd hk).2; unfold lck; omega) (by decide)).mp q
        rw [e3 true (decide_eq_true this)] at step
        exact step
      · rw [e3 false (decide_eq_false (fun z => q (by rw [z]; rfl)))] at step
        exact step
  exact lp m 0 I P (by omega) h stX_rf
/-- only what is fixed has changed -/
theorem XH_lo (h : XH I J P K n hd nm so c us sn im) (f1 : ∀ x k, 34 < x → I' x k = I x k) (h12 : I' 0 12 = I 0 12) (h13 : I' 0 13 = I 0 13) : XH I' J P K n hd nm so c us sn im := by
  obtain ⟨cs, nx, h⟩ := h
  obtain ⟨b, e1⟩ := h.2.2.2.1
  exact ⟨cs, nx, XHc_mv h e1 ⟨fun x k h1 _ _ => ⟨f1 x k h1, rfl⟩, fun _ _ _ _ _ => rfl, fun _ _ => rfl⟩ (fun _ _ _ _ => rfl) h12 h13 (Nat.le_refl _)⟩
theorem stX_lo (f1 : ∀ x k, 34 < x → I' x k = I x k) : stX I I' J J P P K K n n := ⟨fun x k h1 _ => ⟨f1 x k (by omega), rfl, rfl⟩, fun _ _ => rfl, Nat.le_refl _, by omega, by omega⟩
theorem X_which (h : XR I J P K n tl tp f hd nm so c us bm row ask st wr tx sn im) (hF : ∀ I', XR I' J P K n 0 tp f hd nm so c us bm row (kWhich hd so tl tp ask) st wr tx sn im → stX I I' J J P P K K n n → FK (vWhich hd so tl tp) I' J) : ckI G (d + 4) mX11_which [.ref 0] I J P K n FK := by
  obtain ⟨hX, hn, ⟨h1, h2, h3, ⟨h4, h5⟩, h6, ⟨h7, h8⟩, h9⟩, hH⟩ := id h
  obtain ⟨cs, nx, hh⟩ := id hH
  obtain ⟨a, l, p8, e0, oa, oL, S, L, N, C, w⟩ := XH_sC hh
  have oa1 := oa.1
  have oL1 := oL.1
  have hcs := wf_casks w
  have fin : ∀ I', I' 0 1 = 0 → I' 10 2 = kWhich hd so tl tp ask → (∀ x k, ¬ (5 ≤ x ∧ x ≤ 6) → x ≠ 18 → ¬ (x = 10 ∧ (k = 7 ∨ k = 2)) → ¬ (x = 0 ∧ k = 1) → I' x k = I x k) → FK (vWhich hd so tl tp) I' J := by
    intro I' q1 q2 q3
    refine hF I' ⟨hX, hn, ⟨⟨q1, by omega, fun j hj => by omega⟩, (q3 _ _ (by decide) (by decide) (by decide) (by decide)).trans h2, xBl_of h3 (q3 _ _ (by decide) (by decide) (by decide) (by decide)) (fun k => q3 _ _ (by decide) (by decide) (by omega) (by omega)), ⟨q2, (q3 _ _ (by decide) (by decide) (by decide) (by decide)).trans h5⟩, xWr_of h6 (q3 _ _ (by decide) (by decide) (by decide) (by decide)) (fun k => q3 _ _ (by decide) (by decide) (by omega) (by omega)), ⟨rTg_of h7 (q3 _ _ (by decide) (by decide) (by decide) (by decide)) (fun k => q3 _ _ (by decide) (by decide) (by omega) (by omega)), h8⟩, fun j hj => rgB_eq (fun c hc => q3 c j (by omega) (by omega) (by omega) (by omega)) (h9 j hj)⟩, XH_lo hH (fun x k hx => q3 x k (by omega) (by omega) (by omega) (by omega)) (q3 _ _ (by decide) (by decide) (by decide) (by decide)) (q3 _ _ (by decide) (by decide) (by decide) (by decide))⟩ (stX_lo (fun x k hx => q3 x k (by omega) (by omega) (by omega) (by omega)))
  refine bX11_which_0 hX ?_
  rw [h1.1]
  refine C_readPairs hX h1.2.1 (fun j hj => ⟨(u2_a _ _ _ _ (by decide)).trans (h1.2.2 j hj).1, (h1.2.2 j hj).2⟩) (fun I1 r1 r2 => ?_)
  have r3 : ∀ x k, x ≠ 18 → ¬ (x = 10 ∧ k = 7) → ¬ (x = 0 ∧ k = 1) → I1 x k = I x k := fun x k a1 a2 a3 => (r2 x k a1 a2).trans (by simp only [u2]; rw [if_neg a3])
  have r4 : I1 0 1 = 0 := (r2 0 1 (by decide) (by decide)).trans (u2_s _ _ _ _)
  refine b01n (fun e => ?_) (fun e => ?_)
  · have := fin I1 r4 ?_ (fun x k a1 a2 a3 a4 => r3 x k a2 (by omega) a4)
    · unfold vWhich at this
      rw [e] at this
      exact this
    · unfold kWhich
      rw [e]
      exact (r3 _ _ (by decide) (by decide) (by decide)).trans h4
  · obtain ⟨t1, t2⟩ := r1 e
    have L1 : rL I1 l hd := rL_of L (fun x k h1 h2 => r3 x k (by omega) (by omega) (by omega))
    have C1 : rC I1 a hd so := rC_of C (fun x k h1 h2 => r3 x k (by omega) (by omega) (by omega)) hcs
    have hp : ∀ v, v < 40 → pr tp (tl / 2) v < 1000000 := fun v hv => by
      have t3 := h1.2.1
      have : pr tp (tl / 2) v ≤ tl / 2 * 255 := sm_bound (fun i hi => by
        split
        · exact (h1.2.2 _ (by omega)).2
        · omega)
      omega
    have hsum : sm (pr tp (tl / 2)) 40 < 1000000 := by
      have t3 := h1.2.1
      have : sm (pr tp (tl / 2)) 40 ≤ 40 * (470 * 255 / 20) := by
        unfold whB at e
        simp only [Bool.and_eq_true, decide_eq_true_eq] at e
        refine sm_bound (fun v hv => ?_)
        have h2 : pr tp (tl / 2) v ≤ tl / 2 * 255 := sm_bound (fun i hi => by
          split
          · exact (h1.2.2 _ (by omega)).2
          · omega)
        omega
      omega
    refine ⟨a, p8, S.1, C_casksOfPairs hX S L1 C1 w hsum t2 t1 hp (fun I2 s1 s2 => ?_)⟩
    have := fin I2 ((s2 _ _ (by decide) (by decide) (by decide)).trans r4) ?_ (fun x k a1 a2 a3 a4 => (s2 x k (by omega) (by omega) (by omega)).trans (r3 x k a2 (by omega) a4))
    · unfold vWhich at this
      rw [e] at this
      exact this
    · unfold kWhich
      rw [s1, e]
      show (if bs (whQ so tl tp) (hd 1) = 0 then I1 10 2 else nI (amn (lft so (whQ so tl tp) (hd 1)) 40)) = _
      rw [r3 10 2 (by decide) (by decide) (by decide), h4]
      by_cases q : bs (whQ so tl tp) (hd 1) = 0
      · rw [if_pos q, if_neg (by rw [q]; decide)]
      · rw [if_neg q, if_pos (by rw [decide_eq_true q]; rfl)]
theorem X_store (x y : Int32) (h : XR I J P K n tl tp f hd nm so c us bm row ask st wr tx sn im) (hF : ∀ I', XR I' J P K n tl tp f hd nm so c us bm row ask (kStore hd so x y st) wr tx sn im → stX I I' J J P P K K n n → FK (vStore hd so x y) I' J) : ckI G (d + 4) mX11_store [.ref 0, .int x, .int y] I J P K n FK := by
  obtain ⟨hX, hn, ⟨h1, h2, h3, ⟨h4, h5⟩, h6, ⟨h7, h8⟩, h9⟩, hH⟩ := id h
  obtain ⟨cs, nx, hh⟩ := id hH
  obtain ⟨a, l, p8, e0, oa, oL, S, L, N, C, w⟩ := XH_sC hh
  have hcs := wf_casks w
  unfold vStore kStore at hF
  have no : (isB x 1 999 && inB y 40) = false → FK (-1) I J := fun e => by
    rw [e, Bool.false_and] at hF
    exact hF _ h stX_rf
  refine bX11_store_0 hX _ _ (isB_br' (fun e => C_noVint y (b01n (fun e2 => ?_) (fun e2 => no (by rw [ng' e2, Bool.and_false])))) (fun e => no (by rw [e]; rfl)))
  rw [e, ng e2] at hF
  obtain ⟨m, hm1, hm, rfl⟩ := isB_t (a := 1) (b := 999) (by decide) (by decide) e
  obtain ⟨v, hv, rfl⟩ := inB_t (ng e2)
  rw [cl_nI (by omega), cl_nI (by omega)] at hF
  refine ⟨a, p8, S.1, C_fewest hX S L C w ⟨hm1, hm⟩ hv (fun I' s1 s2 => ?_)⟩
  have q3 : ∀ x k, x ≠ 19 → x ≠ 20 → ¬ (x = 10 ∧ k = 3) → I' x k = I x k := s2
  have := hF I' ⟨hX, hn, ⟨rTc_of h1 (q3 _ _ (by decide) (by decide) (by decide)) (fun k => q3 _ _ (by decide) (by decide) (by omega)), (q3 _ _ (by decide) (by decide) (by decide)).trans h2, xBl_of h3 (q3 _ _ (by decide) (by decide) (by decide)) (fun k => q3 _ _ (by decide) (by decide) (by omega)), ⟨(q3 _ _ (by decide) (by decide) (by decide)).trans h4, ?_⟩, xWr_of h6 (q3 _ _ (by decide) (by decide) (by decide)) (fun k => q3 _ _ (by decide) (by decide) (by omega)), ⟨rTg_of h7 (q3 _ _ (by decide) (by decide) (by decide)) (fun k => q3 _ _ (by decide) (by decide) (by omega)), h8⟩, fun j hj => rgB_eq (fun c hc => q3 c j (by omega) (by omega) (by omega)) (h9 j hj)⟩, XH_lo hH (fun x k hx => q3 x k (by omega) (by omega) (by omega)) (q3 _ _ (by decide) (by decide) (by decide)) (q3 _ _ (by decide) (by decide) (by decide))⟩ (stX_lo (fun x k hx => q3 x k (by omega) (by omega) (by omega)))
  · by_cases q : few (odl so v) (hd 1) m ≤ hd 1
    · rw [if_pos q]
      rw [decide_eq_true q] at this
      exact this
    · rw [if_neg q]
      rw [decide_eq_false q] at this
      exact this
  · rw [s1]
    by_cases q : few (odl so v) (hd 1) m ≤ hd 1
    · rw [if_pos q, decide_eq_true q]; rfl
    · rw [if_neg q, decide_eq_false q]; exact h5
theorem X_blend (x y z : Int32) (h : XR I J P K n tl tp f hd nm so c us bm row ask st wr tx sn im) (hF : ∀ I', XR I' J P K n tl tp f hd nm so c us (mBlend hd so x y z bm) (wBlend hd so x y z row) ask st wr tx sn im → stX I I' J J P P K K n n → FK (vBlend hd so x y z) I' J) : ckI G (d + 4) mX11_blend [.ref 0, .int x, .int y, .int z] I J P K n FK := by
  obtain ⟨hX, hn, ⟨h1, h2, h3, ⟨h4, h5⟩, h6, ⟨h7, h8⟩, h9⟩, hH⟩ := id h
  obtain ⟨cs, nx, hh⟩ := id hH
  obtain ⟨a, l, p8, e0, oa, oL, S, L, N, C, w⟩ := XH_sC hh
  have hcs := wf_casks w
  have h5' := w.1
  unfold vBlend mBlend wBlend blOk at hF
  have no : (inB x (hd 0) && isB y 1 20 && inB z 40) = false → FK (-1) I J := fun e => by
    rw [e, Bool.false_and] at hF
    exact hF _ h stX_rf
  refine bX11_blend_0 hX _ _ _ (C_noScale x hX p8 S L w (b01n (fun e0 => isB_br' (fun e => C_noVint z (b01n (fun e2 => ?_) (fun e2 => no (by rw [ng' e2, Bool.and_false])))) (fun e => no (by rw [e, Bool.and_false]; rfl))) (fun e => no (by rw [ng' e]; rfl))))
  rw [ng e0, e, ng e2] at hF
  obtain ⟨s, hs, rfl⟩ := inB_t (ng e0)
  obtain ⟨m, hm1, hm, rfl⟩ := isB_t (a := 1) (b := 20) (by decide) (by decide) e
  obtain ⟨v, hv, rfl⟩ := inB_t (ng e2)
  rw [cl_nI (by omega), cl_nI (by omega), cl_nI (by omega)] at hF
  have hsz := wf_sz w (s := s) (by omega)
  have hle : ssc hd (ltr so) s < 2147483648 := by
    have := ssc_lck w hs
    have t1 := (w.2.1 s hs).2.2.2
    have t2 : hd (10 + s) * hd (5 + s) ≤ 400 * 4 := Nat.mul_le_mul t1 hsz
    omega
  refine ⟨a, p8, S.1, C_haveOfScale S L C w hs ?_⟩
  refine ⟨fun q => ⟨a, p8, S.1, C_bestBlend hX S L C w hs ⟨hm1, hm⟩ hv ((nI_leI (by omega) hle).mp q) (fun I' s1 s2 q3 => ?_)⟩, fun q => ?_⟩
  · have qq := (nI_leI (by omega) hle).mp q
    rw [decide_eq_true qq] at hF
    refine hF I' ⟨hX, hn, ⟨rTc_of h1 (q3 _ _ (by decide) (by decide) (by decide) (by decide)) (fun k => q3 _ _ (by decide) (by decide) (by decide) (by omega)), (q3 _ _ (by decide) (by decide) (by decide) (by decide)).trans h2, ⟨s1, hsz, s2⟩, ⟨(q3 _ _ (by decide) (by decide) (by decide) (by decide)).trans h4, (q3 _ _ (by decide) (by decide) (by decide) (by decide)).trans h5⟩, xWr_of h6 (q3 _ _ (by decide) (by decide) (by decide) (by decide)) (fun k => q3 _ _ (by decide) (by decide) (by decide) (by omega)), ⟨rTg_of h7 (q3 _ _ (by decide) (by decide) (by decide) (by decide)) (fun k => q3 _ _ (by decide) (by decide) (by decide) (by omega)), h8⟩, fun j hj => rgB_eq (fun c hc => q3 c j (by omega) (by omega) (by omega) (by omega)) (h9 j hj)⟩, XH_lo hH (fun x k hx => q3 x k (by omega) (by omega) (by omega) (by omega)) (q3 _ _ (by decide) (by decide) (by decide) (by decide)) (q3 _ _ (by decide) (by decide) (by decide) (by decide))⟩ (stX_lo (fun x k hx => q3 x k (by omega) (by omega) (by omega) (by omega)))
  · have qq : ¬ m ≤ ssc hd (ltr so) s := fun z => q (nI_le z hle)
    rw [decide_eq_false qq] at hF
    exact hF _ h stX_rf
theorem X_blendAt (x : Int32) (h : XR I J P K n tl tp f hd nm so c us bm row ask st wr tx sn im) (hF : FK (if inB x bm then nI (row (cl x)) else -1) I J) : ckI G d mX11_blendAt [.ref 0, .int x] I J P K n FK := by
  obtain ⟨hX, hn, ⟨h1, h2, ⟨h3, h3a, h3b⟩, -⟩, hH⟩ := id h
  refine bX11_blendAt_0 hX _ ?_
  rw [h3]
  refine rng6 (by omega) (fun e => ?_) (fun e => ?_)
  · rw [if_pos e] at hF
    obtain ⟨k, hk, rfl⟩ := inB_t e
    rw [cl_nI (by omega)] at hF
    rw [nI_ck (by omega), h3b k hk]
    exact ⟨nI_inN (by omega) (by decide), hF⟩
  · rw [if_neg (by rw [e]; decide)] at hF
    exact hF
theorem X_told (x : Int32) (h : XR I J P K n tl tp f hd nm so c us bm row ask st wr tx sn im) (hF : FK (match wr with | none => -1 | some g => if inB x 4 then g (cl x) else -1) I J) : ckI G d mX11_told [.ref 0, .int x] I J P K n FK := by
  obtain ⟨hX, hn, ⟨h1, h2, h3, h4, h6, -⟩, hH⟩ := id h
  refine bX11_told_0 hX _ ?_
  cases wr with
  | none =>
    have h6 : I 0 17 = 0 := h6
    rw [h6]
    exact br_t rfl hF
  | some g =>
    obtain ⟨h6, h7⟩ : I 0 17 = 1 ∧ ∀ k, k < 4 → I 32 k = g k := h6
    have hF : FK (if inB x 4 then g (cl x) else -1) I J := hF
    rw [h6]
    refine br_f (by decide) (rng6 (N := 4) (by decide) (fun e => ?_) (fun e => ?_))
    · rw [if_pos e] at hF
      obtain ⟨k, hk, rfl⟩ := inB_t e
      rw [cl_nI (by omega)] at hF
      rw [nI_ck (by omega), h7 k hk]
      exact ⟨nI_inN hk (by decide), hF⟩
    · rw [if_neg (by rw [e]; decide)] at hF
      exact hF
def frFd (I I' : sI) : Prop := ∀ x k, x ≠ 1 → ¬ (x = 0 ∧ k = 1) → I' x k = I x k
theorem C_feed1 {FV : sI → sJ → Prop} {t : Nat} {w x : Int32} (k : Nat) (hX : shX P K) (ht : I 0 1 = nI t) (ht2 : t < 940) (h0 : ¬ x < 0) (hx : (x.toUInt32 &&& Int32.toUInt32 31).toNat % 32 = k) (h : ∀ I', I' 0 1 = nI (t + 1) → I' 1 t = nI (byt w k) → (∀ j, j ≠ t → I' 1 j = I 1 j) → frFd I I' → Ok G d mX11_feedNumber 3 [some (.ref 0), some (.int w), some (.int (x + (-8)))] [] I' J P K n (kV P K n FV)) : Ok G d mX11_feedNumber 3 [some (.ref 0), some (.int w), some (.int x)] [] I J P K n (kV P K n FV) := by
  refine bX11_feedNumber_3 hX _ _ (br_f h0 ?_)
  rw [ht, nI_ck (by omega), byt_is w x k hx, nI_1]
  refine br_f (nI_ge (b := 940) ht2 (by decide)) ⟨nI_inN ht2 (by decide), h _ (u2_s _ _ _ _) ?_ (fun j hj => ?_) (fun c j a b => ?_)⟩
  · rw [u2_a _ _ _ _ (by decide), u2_s]
  · rw [u2_a _ _ _ _ (by decide), u2_k _ _ _ _ hj]
  · simp only [u2]
    rw [if_neg b, if_neg (fun e => a e.1)]
theorem C_feedNumber {FV : sI → sJ → Prop} (w : Int32) (hX : shX P K) (T : rTc I tl tp) (hl : tl + 4 ≤ 940) (h : ∀ I', rTc I' (tl + 4) (cm tp tl w) → frFd I I' → FV I' J) : ckV G d mX11_feedNumber [.ref 0, .int w] I J P K n FV := by
  obtain ⟨T1, T2, T3⟩ := T
  refine bX11_feedNumber_0 _ ?_
  refine C_feed1 24 hX T1 (by omega) (by decide) (by decide) (fun I1 a1 b1 c1 f1 => ?_)
  refine C_feed1 16 hX a1 (by omega) (by decide) (by decide) (fun I2 a2 b2 c2 f2 => ?_)
  refine C_feed1 8 hX a2 (by omega) (by decide) (by decide) (fun I3 a3 b3 c3 f3 => ?_)
  refine C_feed1 0 hX a3 (by omega) (by decide) (by decide) (fun I4 a4 b4 c4 f4 => ?_)
  refine bX11_feedNumber_3 hX _ _ (br_t (by decide) (h I4 ⟨a4, hl, fun j hj => ?_⟩ (fun x k h1 h2 => (f4 x k h1 h2).trans ((f3 x k h1 h2).trans ((f2 x k h1 h2).trans (f1 x k h1 h2))))))
  unfold cm
  by_cases q0 : j = tl
  · subst q0
    rw [c4 j (by omega), c3 j (by omega), c2 j (by omega), b1, if_pos rfl]
    exact ⟨rfl, byt_le _ _⟩
  by_cases q1 : j = tl + 1
  · subst q1
    rw [c4 _ (by omega), c3 _ (by omega), b2, if_neg q0, if_pos rfl]
    exact ⟨rfl, byt_le _ _⟩
  by_cases q2 : j = tl + 2
  · subst q2
    rw [c4 _ (by omega), b3, if_neg q0, if_neg q1, if_pos rfl]
    exact ⟨rfl, byt_le _ _⟩
  by_cases q3 : j = tl + 3
  · subst q3
    rw [b4, if_neg q0, if_neg q1, if_neg q2, if_pos rfl]
    exact ⟨rfl, byt_le _ _⟩
  rw [c4 j q3, c3 j q2, c2 j q1, c1 j q0, if_neg q0, if_neg q1, if_neg q2, if_neg q3]
  exact T3 j (by omega)
theorem XR_fd {tl' : Nat} {tp' : Nat → Nat} (h : XR I J P K n tl tp f hd nm so c us bm row ask st wr tx sn im) (T : rTc I' tl' tp') (q : frFd I I') : XR I' J P K n tl' tp' f hd nm so c us bm row ask st wr tx sn im ∧ stX I I' J J P P K K n n := by
  obtain ⟨hX, hn, ⟨h1, h2, h3, ⟨h4, h5⟩, h6, ⟨h7, h8⟩, h9⟩, hH⟩ := h
  exact ⟨⟨hX, hn, ⟨T, (q _ _ (by decide) (by decide)).trans h2, xBl_of h3 (q _ _ (by decide) (by decide)) (fun k => q _ _ (by decide) (by omega)), ⟨(q _ _ (by decide) (by decide)).trans h4, (q _ _ (by decide) (by decide)).trans h5⟩, xWr_of h6 (q _ _ (by decide) (by decide)) (fun k => q _ _ (by decide) (by omega)), ⟨rTg_of h7 (q _ _ (by decide) (by decide)) (fun k => q _ _ (by decide) (by omega)), h8⟩, fun j hj => rgB_eq (fun c hc => q c j (by omega) (by omega)) (h9 j hj)⟩, XH_lo hH (fun x k hx => q x k (by omega) (by omega)) (q _ _ (by decide) (by decide)) (q _ _ (by decide) (by decide))⟩, stX_lo (fun x k hx => q x k (by omega) (by omega))⟩
theorem X_feed (v w x y z : Int32) (h : XR I J P K n tl tp f hd nm so c us bm row ask st wr tx sn im) (hF : ∀ I', XR I' J P K n (if tl ≤ 920 then tl + 20 else tl) (if tl ≤ 920 then fdT tp tl v w x y z else tp) f hd nm so c us bm row ask st wr tx sn im → stX I I' J J P P K K n n → FK (if tl ≤ 920 then nI (tl + 20) else -1) I' J) : ckI G (d + 1) mX11_feed [.ref 0, .int v, .int w, .int x, .int y, .int z] I J P K n FK := by
  obtain ⟨hX, hn, ⟨h1, -⟩, hH⟩ := id h
  have t9 := h1.2.1
  refine bX11_feed_0 hX _ _ _ _ _ ?_
  rw [h1.1]
  have e20 : nI tl + 20 = nI (tl + 20) := i_add tl 20
  rw [e20]
  by_cases q : tl ≤ 920
  · rw [if_pos q, if_pos q, if_pos q] at hF
    refine br_t (nI_le (b := 940) (by omega) (by decide)) (C_feedNumber v hX h1 (by omega) (fun I1 T1 f1 => C_feedNumber w hX T1 (by omega) (fun I2 T2 f2 => C_feedNumber x hX T2 (by omega) (fun I3 T3 f3 => C_feedNumber y hX T3 (by omega) (fun I4 T4 f4 => C_feedNumber z hX T4 (by omega) (fun I5 T5 f5 => ?_))))))
    obtain ⟨r1, r2⟩ := XR_fd h T5 (fun x k h1 h2 => (f5 x k h1 h2).trans ((f4 x k h1 h2).trans ((f3 x k h1 h2).trans ((f2 x k h1 h2).trans (f1 x k h1 h2)))))
    rw [T5.1]
    exact hF I5 r1 r2
  · rw [if_neg q, if_neg q, if_neg q] at hF
    exact br_f (nI_ge (a := 940) (by omega) (by omega)) (hF I h stX_rf)
theorem X_end (x : Int32) (h : XR I J P K n tl tp f hd nm so c us bm row ask st wr tx sn im) (hF : ∀ I', XR I' J P K n (if inB x (tl + 1) then cl x else tl) tp f hd nm so c us bm row ask st wr tx sn im → stX I I' J J P P K K n n → FK (b01 (inB x (tl + 1))) I' J) : ckI G d mX11_end [.ref 0, .int x] I J P K n FK := by
  obtain ⟨hX, hn, ⟨h1, -⟩, hH⟩ := id h
  have t9 := h1.2.1
  refine C_end x hX h1.1 h1.2.1 (fun e => ?_) (fun k hk e => ?_)
  · rw [e] at hF
    exact hF I h stX_rf
  · subst e
    have e := inB_nI (k := k) (N := tl + 1) (by omega) (by omega)
    rw [e, cl_nI (by omega)] at hF
    obtain ⟨r1, r2⟩ := XR_fd (I' := u2 I 0 1 (nI k)) (tl' := k) (tp' := tp) h ⟨u2_s _ _ _ _, by omega, fun j hj => ⟨(u2_a _ _ _ _ (by decide)).trans (h1.2.2 j (by omega)).1, (h1.2.2 j (by omega)).2⟩⟩ (fun x k _ q => by simp only [u2]; rw [if_neg q])
    exact hF _ r1 r2
theorem dg3_le (m : Nat) : (dg3 m).length ≤ 3 := by
  unfold dg3
  simp only [List.length_append]
  have h1 : (if 100 ≤ m then [48 + m / 100] else []).length ≤ 1 := by split <;> simp
  have h2 : (if 10 ≤ m then [48 + m / 10 % 10] else []).length ≤ 1 := by split <;> simp
  have h3 : [48 + m % 10].length = 1 := rfl
  omega
theorem tgL_le {k : Nat} (w : wf hd so) (hk : k < hd 1) (N : rLN J a hd nm) : (tgL nm hd so k).length ≤ 40 := by
  have h1 := (N _ (sof_at w hk).1).2.2.1
  have h2 := dg3_le (k - fst' hd (sof hd k))
  have h3 := dg3_le (ltr so k)
  have h4 := dg3_le (hol hd k)
  unfold tgL
  simp only [List.length_append, List.length_map, List.length_cons, List.length_nil]
  omega
theorem X_tag (x : Int32) (h : XR I J P K n tl tp f hd nm so c us bm row ask st wr tx sn im) (hF : ∀ I', XR I' J P K n tl tp f hd nm so c us bm row ask st wr (if inB x (hd 1) then tgL nm hd so (cl x) else tx) sn im → stX I I' J J P P K K n n → FK (if inB x (hd 1) then nI (tgL nm hd so (cl x)).length else -1) I' J) : ckI G (d + 6) mX11_tag [.ref 0, .int x] I J P K n FK := by
  obtain ⟨hX, hn, ⟨h1, h2, h3, ⟨h4, h5⟩, h6, ⟨h7, h8⟩, h9⟩, hH⟩ := id h
  obtain ⟨cs, nx, hh⟩ := id hH
  obtain ⟨a, l, p8, e0, oa, oL, S, L, N, C, w⟩ := XH_sC hh
  refine C_tag x hX p8 S L N C w h7 (fun I' T q => hF I' ⟨hX, hn, ⟨rTc_of h1 (q _ _ (by decide) (by decide)) (fun k => q _ _ (by decide) (by omega)), (q _ _ (by decide) (by decide)).trans h2, xBl_of h3 (q _ _ (by decide) (by decide)) (fun k => q _ _ (by decide) (by omega)), ⟨(q _ _ (by decide) (by decide)).trans h4, (q _ _ (by decide) (by decide)).trans h5⟩, xWr_of h6 (q _ _ (by decide) (by decide)) (fun k => q _ _ (by decide) (by omega)), ⟨T, ?_⟩, fun j hj => rgB_eq (fun c hc => q c j (by omega) (by omega)) (h9 j hj)⟩, XH_lo hH (fun x k hx => q x k (by omega) (by omega)) (q _ _ (by decide) (by decide)) (q _ _ (by decide) (by decide))⟩ (stX_lo (fun x k hx => q x k (by omega) (by omega))))
  by_cases e : inB x (hd 1) = true
  · rw [if_pos e]
    obtain ⟨k, hk, rfl⟩ := inB_t e
    have hcs := wf_casks w
    rw [cl_nI (by omega)]
    exact tgL_le w hk N
  · rw [if_neg e]; exact h8
end AskX
