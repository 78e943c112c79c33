/-! the class: all of its state; the acts -/
def xWr (I : sI) (wr : Option (Nat → Int32)) : Prop := match wr with
  | none => I 0 17 = 0
  | some g => I 0 17 = 1 ∧ ∀ k, k < 4 → I 32 k = g k
def xBl (I : sI) (bm : Nat) (row : Nat → Nat) : Prop := I 10 1 = nI bm ∧ bm ≤ 4 ∧ ∀ k, k < bm → I 11 k = nI (row k)
def XL (I : sI) (tl : Nat) (tp : Nat → Nat) (f : Int32) (bm : Nat) (row : Nat → Nat) (ask st : Int32) (wr : Option (Nat → Int32)) (tx : List Nat) : Prop := rTc I tl tp ∧ I 0 3 = f ∧ xBl I bm row ∧ (I 10 2 = ask ∧ I 10 3 = st) ∧ xWr I wr ∧ (rTg I tx ∧ tx.length ≤ 40) ∧ ∀ j, j < 40 → rgB I j
def XR (I : sI) (J : sJ) (P : sP) (K : sK) (n : Nat) (tl : Nat) (tp : Nat → Nat) (f : Int32) (hd : Nat → Nat) (nm : Nat → List Nat) (so : Nat → Nat) (c : Nat) (us : Nat → Nat → Nat) (bm : Nat) (row : Nat → Nat) (ask st : Int32) (wr : Option (Nat → Int32)) (tx : List Nat) (sn : Option (List itT)) (im : Nat → Option imT) : Prop := shX P K ∧ 116 < n ∧ XL I tl tp f bm row ask st wr tx ∧ XH I J P K n hd nm so c us sn im
/-- what a call of the class may change of the rest -/
def stX (I I' : sI) (J J' : sJ) (P P' : sP) (K K' : sK) (n n' : Nat) : Prop := (∀ x k, 91 ≤ x → x ≤ 116 → I' x k = I x k ∧ J' x k = J x k ∧ P' x k = P x k) ∧ (∀ x, x < n → K' x = K x) ∧ n ≤ n' ∧ n' ≤ n + 30 ∧ gS K' n' ≤ gS K n + 1000
def bud (K : sK) (n : Nat) : Prop := n + 30 ≤ 601024 ∧ gS K n + 1000 ≤ 7293034
def scr (x k : Nat) : Prop := x = 2 ∨ (5 ≤ x ∧ x ≤ 9) ∨ (13 ≤ x ∧ x ≤ 23) ∨ (26 ≤ x ∧ x ≤ 28) ∨ (x = 10 ∧ k = 7) ∨ (x = 0 ∧ (k = 12 ∨ k = 13))
theorem isB_br {x lo hi : Int32} {A B : Prop} (a : isB x lo hi = true → A) (b : isB x lo hi = false → B) : (x < lo → B) ∧ (¬ x < lo → ((x ≤ hi → A) ∧ (¬ x ≤ hi → B))) := by
  unfold isB at a b
  refine ⟨fun q => b ?_, fun q => ⟨fun r => a ?_, fun r => b ?_⟩⟩
  · rw [decide_eq_false (Int32.not_le.mpr q)]; rfl
  · rw [decide_eq_true (Int32.not_lt.mp q), decide_eq_true r]; rfl
  · rw [decide_eq_false r, Bool.and_false]
theorem isB_br' {x lo hi : Int32} {A B : Prop} (a : isB x lo hi = true → A) (b : isB x lo hi = false → B) : (x < lo → B) ∧ (¬ x < lo → ((hi < x → B) ∧ (¬ hi < x → A))) := by
  obtain ⟨h1, h2⟩ := isB_br a b
  exact ⟨h1, fun q => ⟨fun r => (h2 q).2 (Int32.not_le.mpr r), fun r => (h2 q).1 (Int32.not_lt.mp r)⟩⟩
section ActX
variable {G : gG} {d : Nat} {I I' I1 I2 : sI} {J J' : sJ} {P P' P1 : sP} {K K' : sK} {n n' : Nat} {cs cs' : Nat → Option Nat} {a b nx : Nat} {F : Int32 → sI → sJ → sP → sK → Nat → Prop}
variable {tl : Nat} {tp : Nat → Nat} {f : Int32} {hd so : Nat → Nat} {nm : Nat → List Nat} {c : Nat} {us : Nat → Nat → Nat} {bm : Nat} {row : Nat → Nat} {ask st : Int32} {wr : Option (Nat → Int32)} {tx : List Nat} {sn : Option (List itT)} {im : Nat → Option imT}
theorem rTc_of (h : rTc I tl tp) (f1 : I' 0 1 = I 0 1) (f2 : ∀ k, I' 1 k = I 1 k) : rTc I' tl tp := ⟨f1.trans h.1, h.2.1, fun j hj => ⟨(f2 j).trans (h.2.2 j hj).1, (h.2.2 j hj).2⟩⟩
theorem xBl_of (h : xBl I bm row) (f1 : I' 10 1 = I 10 1) (f2 : ∀ k, I' 11 k = I 11 k) : xBl I' bm row := ⟨f1.trans h.1, h.2.1, fun j hj => (f2 j).trans (h.2.2 j hj)⟩
theorem xWr_of (h : xWr I wr) (f1 : I' 0 17 = I 0 17) (f2 : ∀ k, I' 32 k = I 32 k) : xWr I' wr := by
  cases wr with
  | none => exact f1.trans h
  | some g => exact ⟨f1.trans h.1, fun j hj => (f2 j).trans (h.2 j hj)⟩
theorem rTg_of (h : rTg I tx) (f1 : I' 33 1 = I 33 1) (f2 : ∀ k, I' 34 k = I 34 k) : rTg I' tx := ⟨f1.trans h.1, fun j hj => (f2 j).trans (h.2 j hj)⟩
theorem XL_of (h : XL I tl tp f bm row ask st wr tx) (g : ∀ x k, x ≤ 34 → ¬ scr x k → I' x k = I x k) : XL I' tl tp f bm row ask st wr tx := by
  unfold scr at g
  obtain ⟨h1, h2, h3, ⟨h4, h5⟩, h6, ⟨h7, h8⟩, h9⟩ := h
  exact ⟨rTc_of h1 (g _ _ (by decide) (by decide)) (fun k => g _ _ (by decide) (by omega)), (g _ _ (by decide) (by decide)).trans h2, xBl_of h3 (g _ _ (by decide) (by decide)) (fun k => g _ _ (by decide) (by omega)), ⟨(g _ _ (by decide) (by decide)).trans h4, (g _ _ (by decide) (by decide)).trans h5⟩, xWr_of h6 (g _ _ (by decide) (by decide)) (fun k => g _ _ (by decide) (by omega)), ⟨rTg_of h7 (g _ _ (by decide) (by decide)) (fun k => g _ _ (by decide) (by omega)), h8⟩, fun j hj => rgB_eq (fun c hc => g c j (by omega) (by omega)) (h9 j hj)⟩
theorem stX_rf : stX I I J J P P K K n n := ⟨fun _ _ _ _ => ⟨rfl, rfl, rfl⟩, fun _ _ => rfl, Nat.le_refl _, by omega, by omega⟩
/-- the trial is made what is so -/
theorem X_copyK {FV : sI → sJ → sP → sK → Nat → Prop} (h : XR I J P K n tl tp f hd nm so c us bm row ask st wr tx sn im) (hF : ∀ cs nx b I1 P1, shX P1 K → XHt cs nx b so I1 J P1 K n hd nm so c us sn im → (∀ x k, ¬ (b ≤ x ∧ x ≤ b + 24) → I1 x k = I x k) → (∀ x k, ¬ (x = b ∧ k = 0) → P1 x k = P x k) → 34 < b → (b + 24 < 91 ∨ 116 < b) → FV I1 J P1 K n) : ∃ b9, P 0 9 = some b9 ∧ shC P K b9 ∧ ∃ b8, P 0 8 = some b8 ∧ shC P K b8 ∧ cqV G (d + 1) mX1_copyFrom [.ref b9, .ref b8] I J P K n FV := by
  obtain ⟨hX, hn, -, cs, nx, h⟩ := h
  obtain ⟨b, e1⟩ := h.2.2.2.1
  obtain ⟨a, l, p8, e0, oa, oL, S, -⟩ := XH_sC h
  have sb := (h.2.1 1 b (by decide) e1).1
  refine ⟨b, h.1.2.1.trans e1, sb, a, p8, S.1, X_copy h e1 e0 (fun I1 l1 T f1 g1 g2 => hF cs nx b I1 _ (shX_of hX (fun x k hx _ _ _ _ _ => u2_a _ _ _ _ (by omega)) (fun _ _ => rfl)) T f1 (fun x k q => by simp only [u2]; rw [if_neg q]) g1 g2)⟩
/-- from the trial to what is kept -/
theorem X_fin {so' : Nat → Nat} {c' : Nat} {us' : Nat → Nat → Nat} (h : XR I J P K n tl tp f hd nm so c us bm row ask st wr tx sn im) (g1 : 34 < b) (g2 : b + 24 < 91 ∨ 116 < b) (f1 : ∀ x k, ¬ (b ≤ x ∧ x ≤ b + 24) → I1 x k = I x k) (p1 : ∀ x k, ¬ (x = b ∧ k = 0) → P1 x k = P x k) (f2 : frCh b I1 I2) (hX : shX P' K') (hH : XH I' J' P' K' n' hd nm so' c' us' sn im) (kp : kpA I2 I' J J' P1 P' K K' n n') : XR I' J' P' K' n' tl tp f hd nm so' c' us' bm row ask st wr tx sn im ∧ stX I I' J J' P P' K K' n n' := by
  obtain ⟨-, hn, L, -⟩ := h
  obtain ⟨k1, k2, k3, k4, k5, k6, k7⟩ := kp
  unfold frCh dT at f2
  have q : ∀ x k, x < n → ¬ (b ≤ x ∧ x ≤ b + 24) → ¬ (5 ≤ x ∧ x ≤ 9) → x ≠ 21 → ¬ (x = 0 ∧ (k = 12 ∨ k = 13)) → I' x k = I x k := fun x k a1 a2 a3 a4 a5 => (k1 x k a1 a5).trans ((f2 x k (by omega) a4).trans (f1 x k a2))
  refine ⟨⟨hX, by omega, XL_of L (fun x k hx ns => q x k (by omega) (by omega) ?_ ?_ ?_), hH⟩, fun x k h1 h2 => ⟨q x k (by omega) (by omega) (by omega) (by omega) (by omega), k2 x k (by omega), (k3 x k (by omega) (by omega) (by omega)).trans (p1 x k (by omega))⟩, k4, k5, by omega, by omega⟩
  all_goals (unfold scr at ns; omega)
theorem kpA_rf : kpA I I J J P P K K n n := ⟨fun _ _ _ _ => rfl, fun _ _ _ => rfl, fun _ _ _ _ _ => rfl, fun _ _ => rfl, Nat.le_refl _, by omega, by omega⟩
theorem XHt_ch {sx sy : Nat → Nat} (h : XHt cs nx b sx I1 J P1 K n hd nm so c us sn im) (g1 : 34 < b) (f2 : frCh b I1 I2) (C : rC I2 b hd sy) (w : wf hd sy) : XHt cs nx b sy I2 J P1 K n hd nm so c us sn im := by
  unfold frCh dT at f2
  exact XHt_fr h (fun x k h1 h2 => f2 x k (by omega) (by omega)) (f2 _ _ (by omega) (by omega)) (f2 _ _ (by omega) (by omega)) C w
theorem X_act {t x y z : Nat} (bu : bud K n) (h0 : XR I J P K n tl tp f hd nm so c us bm row ask st wr tx sn im) (ok : aOk hd t x y z) (w : wf hd so) (hX1 : shX P1 K) (T : XHt cs nx b so I1 J P1 K n hd nm so c us sn im) (f1 : ∀ x k, ¬ (b ≤ x ∧ x ≤ b + 24) → I1 x k = I x k) (p1 : ∀ x k, ¬ (x = b ∧ k = 0) → P1 x k = P x k) (g1 : 34 < b) (g2 : b + 24 < 91 ∨ 116 < b) (C : rC I2 b hd (dif hd so t x y z)) (f2 : frC b I1 I2) (hF : ∀ I' J' P' K' n', XR I' J' P' K' n' tl tp f hd nm (oS hd so (some (t, x, y, z))) (psC (oG hd so (some (t, x, y, z))) c) (psU (oG hd so (some (t, x, y, z))) us so) bm row ask st wr tx sn im → stX I I' J J' P P' K K' n n' → F (oW hd so (some (t, x, y, z))) I' J' P' K' n') : cqI G (d + 3) mX11_settle [.ref 0, .int (nI (aWhy hd so t x y z))] I2 J P1 K n F := by
  have hn := h0.2.1
  refine X_settle aWhy_lt hX1 hn (by have := bu.1; omega) (by have := bu.2; omega) (XHt_ch T g1 (frCh_C f2) C (wf_dif w ok)) (fun q => if_neg q) (fun I' J' P' K' n' a1 a2 a3 => ?_)
  obtain ⟨r1, r2⟩ := X_fin h0 g1 g2 f1 p1 (frCh_C f2) a1 a2 a3
  exact hF _ _ _ _ _ r1 r2
theorem low4 {P1 : sP} {K : sK} (h : shX P1 K) : (K 0).1 = 11 ∧ (K 4).1 = 2 ∧ (K 21).1 = 3 ∧ (K 10).1 = 7 := by rw [shX_K0 h, shX_K4 h, shX_K21 h, shX_K10 h]; exact ⟨rfl, rfl, rfl, rfl⟩
theorem X_draw (x z : Int32) (bu : bud K n) (h : XR I J P K n tl tp f hd nm so c us bm row ask st wr tx sn im) (hF : ∀ I' J' P' K' n', XR I' J' P' K' n' tl tp f hd nm (oS hd so (qDraw hd x z)) (psC (oG hd so (qDraw hd x z)) c) (psU (oG hd so (qDraw hd x z)) us so) bm row ask st wr tx sn im → stX I I' J J' P P' K K' n n' → F (oW hd so (qDraw hd x z)) I' J' P' K' n') : cqI G (d + 4) mX11_draw [.ref 0, .int x, .int z] I J P K n F := by
  obtain ⟨hX, hn, -, cs, nx, hh⟩ := id h
  obtain ⟨a, l, p8, e0, oa, oL, S, L, N, C, w⟩ := XH_sC hh
  unfold qDraw at hF
  have no : (inB x (hd 1) && isB z 1 400) = false → F (-1) I J P K n := fun e => by
    rw [e] at hF
    exact hF _ _ _ _ _ h stX_rf
  refine bX11_draw_0 hX _ _ (C_noCask x hX p8 S L w (b01n (fun e => isB_br (fun e2 => ?_) (fun e2 => ?_)) (fun e => no (by rw [ng' e]; rfl))))
  · rw [ng e, e2] at hF
    obtain ⟨k, hk, rfl⟩ := inB_t (ng e)
    obtain ⟨y, hy1, hy2, rfl⟩ := isB_t (a := 1) (b := 400) (by decide) (by decide) e2
    have hcs := wf_casks w
    rw [cl_nI (by omega), cl_nI (by omega)] at hF
    refine X_copyK h (fun cs nx b I1 P1 hX1 T f1 q1 g1 g2 => ?_)
    obtain ⟨pb, ob, l1, oL1, S1, L1, N1, C1, w1⟩ := XHt_sC T
    obtain ⟨k0, k4, -⟩ := low4 hX1
    exact ⟨k0, 4, shX_P0_4 hX1, k0, b, pb, k4, C_tryDraw hX1 S1 L1 C1 w hk hy2 (fun I2 C2 f2 => ⟨k0, X_act bu h (Or.inl ⟨rfl, hk, hy2⟩) w hX1 T f1 q1 g1 g2 C2 f2 hF⟩)⟩
  · exact no (by rw [e2, Bool.and_false])
theorem X_run (x : Int32) (bu : bud K n) (h : XR I J P K n tl tp f hd nm so c us bm row ask st wr tx sn im) (hF : ∀ I' J' P' K' n', XR I' J' P' K' n' tl tp f hd nm (oS hd so (qRun hd x)) (psC (oG hd so (qRun hd x)) c) (psU (oG hd so (qRun hd x)) us so) bm row ask st wr tx sn im → stX I I' J J' P P' K K' n n' → F (oW hd so (qRun hd x)) I' J' P' K' n') : cqI G (d + 5) mX11_run [.ref 0, .int x] I J P K n F := by
  obtain ⟨hX, hn, -, cs, nx, hh⟩ := id h
  obtain ⟨a, l, p8, e0, oa, oL, S, L, N, C, w⟩ := XH_sC hh
  unfold qRun at hF
  refine bX11_run_0 hX _ (C_noScale x hX p8 S L w (b01n (fun e => ?_) (fun e => ?_)))
  · rw [ng e] at hF
    obtain ⟨k, hk, rfl⟩ := inB_t (ng e)
    have h5 := w.1
    rw [cl_nI (by omega)] at hF
    refine X_copyK h (fun cs nx b I1 P1 hX1 T f1 q1 g1 g2 => ?_)
    obtain ⟨pb, ob, l1, oL1, S1, L1, N1, C1, w1⟩ := XHt_sC T
    obtain ⟨k0, k4, -⟩ := low4 hX1
    exact ⟨k0, 4, shX_P0_4 hX1, k0, b, pb, k4, C_tryRun hX1 S1 L1 C1 w hk (fun I2 C2 f2 => ⟨k0, X_act bu h (Or.inr (Or.inl ⟨rfl, hk⟩)) w hX1 T f1 q1 g1 g2 C2 f2 hF⟩)⟩
  · rw [ng' e] at hF
    exact hF _ _ _ _ _ h stX_rf
theorem X_top (bu : bud K n) (h : XR I J P K n tl tp f hd nm so c us bm row ask st wr tx sn im) (hF : ∀ I' J' P' K' n', XR I' J' P' K' n' tl tp f hd nm (oS hd so qTop) (psC (oG hd so qTop) c) (psU (oG hd so qTop) us so) bm row ask st wr tx sn im → stX I I' J J' P P' K K' n n' → F (oW hd so qTop) I' J' P' K' n') : cqI G (d + 4) mX11_top [.ref 0] I J P K n F := by
  obtain ⟨hX, hn, -, cs, nx, hh⟩ := id h
  obtain ⟨a, l, p8, e0, oa, oL, S, L, N, C, w⟩ := XH_sC hh
  refine bX11_top_0 hX (X_copyK h (fun cs nx b I1 P1 hX1 T f1 q1 g1 g2 => ?_))
  obtain ⟨pb, ob, l1, oL1, S1, L1, N1, C1, w1⟩ := XHt_sC T
  obtain ⟨k0, k4, -⟩ := low4 hX1
  exact ⟨k0, 4, shX_P0_4 hX1, k0, b, pb, k4, C_tryTop hX1 S1 L1 C1 w (fun I2 C2 f2 => ⟨k0, X_act bu h (Or.inr (Or.inr (Or.inl rfl))) w hX1 T f1 q1 g1 g2 C2 f2 hF⟩)⟩
theorem X_tip (x u z : Int32) (bu : bud K n) (h : XR I J P K n tl tp f hd nm so c us bm row ask st wr tx sn im) (hF : ∀ I' J' P' K' n', XR I' J' P' K' n' tl tp f hd nm (oS hd so (qTip hd x u z)) (psC (oG hd so (qTip hd x u z)) c) (psU (oG hd so (qTip hd x u z)) us so) bm row ask st wr tx sn im → stX I I' J J' P P' K K' n n' → F (oW hd so (qTip hd x u z)) I' J' P' K' n') : cqI G (d + 4) mX11_tip [.ref 0, .int x, .int u, .int z] I J P K n F := by
  obtain ⟨hX, hn, -, cs, nx, hh⟩ := id h
  obtain ⟨a, l, p8, e0, oa, oL, S, L, N, C, w⟩ := XH_sC hh
  unfold qTip at hF
  have no : (inB x (hd 1) && inB u (hd 1) && isB z 1 400) = false → F (-1) I J P K n := fun e => by
    rw [e] at hF
    exact hF _ _ _ _ _ h stX_rf
  refine bX11_tip_0 hX _ _ _ (C_noCask x hX p8 S L w (b01n (fun e => C_noCask u hX p8 S L w (b01n (fun e3 => isB_br (fun e2 => ?_) (fun e2 => ?_)) (fun e3 => no (by rw [ng' e3, Bool.and_false]; rfl)))) (fun e => no (by rw [ng' e]; rfl))))
  · rw [ng e, ng e3, e2] at hF
    obtain ⟨k, hk, rfl⟩ := inB_t (ng e)
    obtain ⟨k2, hk2, rfl⟩ := inB_t (ng e3)
    obtain ⟨y, hy1, hy2, rfl⟩ := isB_t (a := 1) (b := 400) (by decide) (by decide) e2
    have hcs := wf_casks w
    rw [cl_nI (by omega), cl_nI (by omega), cl_nI (by omega)] at hF
    refine X_copyK h (fun cs nx b I1 P1 hX1 T f1 q1 g1 g2 => ?_)
    obtain ⟨pb, ob, l1, oL1, S1, L1, N1, C1, w1⟩ := XHt_sC T
    obtain ⟨k0, k4, -⟩ := low4 hX1
    exact ⟨k0, 4, shX_P0_4 hX1, k0, b, pb, k4, C_tryTip hX1 S1 L1 C1 w hk hk2 hy2 (fun I2 C2 f2 => ⟨k0, X_act bu h (Or.inr (Or.inr (Or.inr ⟨rfl, hk, hk2, hy2⟩))) w hX1 T f1 q1 g1 g2 C2 f2 hF⟩)⟩
  · exact no (by rw [e2, Bool.and_false])
/-- years go over the trial, and are kept if any went -/
theorem X_gone {sx : Nat → Nat} {m : Nat} (hm : 1 ≤ m ∧ m ≤ 39) (bu : bud K n) (h0 : XR I J P K n tl tp f hd nm so c us bm row ask st wr tx sn im) (w : wf hd sx) (hX1 : shX P1 K) (T : XHt cs nx b so I1 J P1 K n hd nm so c us sn im) (f1 : ∀ x k, ¬ (b ≤ x ∧ x ≤ b + 24) → I1 x k = I x k) (p1 : ∀ x k, ¬ (x = b ∧ k = 0) → P1 x k = P x k) (g1 : 34 < b) (g2 : b + 24 < 91 ∨ 116 < b) (C : rC I2 b hd sx) (f2 : frCh b I1 I2) (hF : ∀ I' J' P' K' n', XR I' J' P' K' n' tl tp f hd nm (if so 0 = 39 then so else sx) (psC (decide (so 0 ≠ 39)) c) (psU (decide (so 0 ≠ 39)) us so) bm row ask st wr tx sn im → stX I I' J J' P P' K K' n n' → F (if so 0 = 39 then 0 else nI (if m ≤ 39 - so 0 then m else 39 - so 0)) I' J' P' K' n') (hy : so 0 ≤ 39) : (nI (if m ≤ 39 - so 0 then m else 39 - so 0) ≤ 0 → F (nI (if m ≤ 39 - so 0 then m else 39 - so 0)) I2 J P1 K n) ∧ (¬ nI (if m ≤ 39 - so 0 then m else 39 - so 0) ≤ 0 → (K 0).1 = 11 ∧ cqV G (d + 2) mX11_keepAct [.ref 0] I2 J P1 K n (fun I' J' P' K' n' => F (nI (if m ≤ 39 - so 0 then m else 39 - so 0)) I' J' P' K' n')) := by
  have hn := h0.2.1
  have T2 := XHt_ch T g1 f2 C w
  by_cases q : so 0 = 39
  · have e : (if m ≤ 39 - so 0 then m else 39 - so 0) = 0 := by rw [if_neg (by omega)]; omega
    rw [e] at hF ⊢
    rw [if_pos q, if_pos q] at hF
    refine br_t (by decide) ?_
    obtain ⟨r1, r2⟩ := X_fin h0 g1 g2 f1 p1 f2 hX1 ⟨cs, nx, T2.1⟩ kpA_rf
    refine hF _ _ _ _ _ ?_ r2
    rw [show decide (so 0 ≠ 39) = false from decide_eq_false (fun z => z q)]
    exact r1
  · rw [if_neg q, if_neg q] at hF
    refine br_f ?_ ⟨(low4 hX1).1, X_keepAct hX1 hn (by have := bu.1; omega) (by have := bu.2; omega) T2 (fun I' J' P' K' n' a1 a2 a3 => ?_)⟩
    · intro z
      have := (nI_leI (b := 0) (by split <;> omega) (by decide)).mp z
      split at this <;> omega
    · obtain ⟨r1, r2⟩ := X_fin h0 g1 g2 f1 p1 f2 a1 a2 a3
      refine hF _ _ _ _ _ ?_ r2
      rw [show decide (so 0 ≠ 39) = true from decide_eq_true q]
      exact r1
theorem X_years (x : Int32) (bu : bud K n) (h : XR I J P K n tl tp f hd nm so c us bm row ask st wr tx sn im) (hF : ∀ I' J' P' K' n', XR I' J' P' K' n' tl tp f hd nm (sYears hd so x) (psC (isB x 1 39 && decide (so 0 ≠ 39)) c) (psU (isB x 1 39 && decide (so 0 ≠ 39)) us so) bm row ask st wr tx sn im → stX I I' J J' P P' K K' n n' → F (vYears so x) I' J' P' K' n') : cqI G (d + 5) mX11_years [.ref 0, .int x] I J P K n F := by
  obtain ⟨hX, hn, -, cs, nx, hh⟩ := id h
  obtain ⟨a, l, p8, e0, oa, oL, S, L, N, C, w⟩ := XH_sC hh
  unfold sYears vYears at hF
  refine bX11_years_0 hX _ (isB_br (fun e => ?_) (fun e => ?_))
  · rw [e] at hF
    obtain ⟨m, hm1, hm2, rfl⟩ := isB_t (a := 1) (b := 39) (by decide) (by decide) e
    rw [cl_nI (by omega)] at hF
    refine X_copyK h (fun cs nx b I1 P1 hX1 T f1 q1 g1 g2 => ?_)
    obtain ⟨pb, ob, l1, oL1, S1, L1, N1, C1, w1⟩ := XHt_sC T
    obtain ⟨k0, k4, -⟩ := low4 hX1
    have hy : so 0 ≤ 39 := w.2.2.2.2.2.2.1
    refine ⟨k0, 4, shX_P0_4 hX1, k0, b, pb, k4, C_letYears (by omega) hX1 S1 L1 C1 w (fun I2 C2 f2 => X_gone ⟨hm1, hm2⟩ bu h (yrs_inv w (m := 39 - so 0) (by omega) _ (by split <;> omega)).1 hX1 T f1 q1 g1 g2 C2 (frCh_C f2) (fun I' J' P' K' n' r1 r2 => hF _ _ _ _ _ ?_ r2) hy)⟩
    by_cases q : so 0 = 39
    · rw [if_pos q] at r1
      rw [show decide (so 0 ≠ 39) = false from decide_eq_false (fun z => z q)] at r1 ⊢
      exact r1
    · rw [if_neg q] at r1
      rw [show decide (so 0 ≠ 39) = true from decide_eq_true q] at r1 ⊢
      exact r1
  · rw [e] at hF
    exact hF _ _ _ _ _ h stX_rf
theorem X_drawn {nx' : Int32 → Int32} (hnx : ∀ s : Int32, nx' s = s * 1103515245 + 12345) (x y : Int32) (bu : bud K n) (h : XR I J P K n tl tp f hd nm so c us bm row ask st wr tx sn im) (wd : ∀ m, m ≤ 39 - so 0 → wf hd (pkYs nx' hd m (y, so)).2) (hF : ∀ I' J' P' K' n', XR I' J' P' K' n' tl tp f hd nm (sDrawn nx' hd so x y) (psC (isB x 1 39 && decide (so 0 ≠ 39)) c) (psU (isB x 1 39 && decide (so 0 ≠ 39)) us so) bm row ask st wr tx sn im → stX I I' J J' P P' K K' n n' → F (vYears so x) I' J' P' K' n') : cqI G (d + 7) mX11_drawn [.ref 0, .int x, .int y] I J P K n F := by
  obtain ⟨hX, hn, -, cs, nx, hh⟩ := id h
  obtain ⟨a, l, p8, e0, oa, oL, S, L, N, C, w⟩ := XH_sC hh
  unfold sDrawn vYears at hF
  refine bX11_drawn_0 hX _ _ (isB_br (fun e => ?_) (fun e => ?_))
  · rw [e] at hF
    obtain ⟨m, hm1, hm2, rfl⟩ := isB_t (a := 1) (b := 39) (by decide) (by decide) e
    rw [cl_nI (by omega)] at hF
    refine X_copyK h (fun cs nx b I1 P1 hX1 T f1 q1 g1 g2 => ?_)
    obtain ⟨pb, ob, l1, oL1, S1, L1, N1, C1, w1⟩ := XHt_sC T
    obtain ⟨k0, k4, k21, -⟩ := low4 hX1
    have hy : so 0 ≤ 39 := w.2.2.2.2.2.2.1
    refine ⟨k0, 21, shX_P0_6 hX1, k0, b, pb, k0, 4, shX_P0_4 hX1, k21, C_chYears y (by omega) hnx hX1 S1 L1 C1 w (fun I2 C2 f2 => X_gone ⟨hm1, hm2⟩ bu h (wd _ (by split <;> omega)) hX1 T f1 q1 g1 g2 C2 f2 (fun I' J' P' K' n' r1 r2 => hF _ _ _ _ _ ?_ r2) hy)⟩
    by_cases q : so 0 = 39
    · rw [if_pos q] at r1
      rw [show decide (so 0 ≠ 39) = false from decide_eq_false (fun z => z q)] at r1 ⊢
      exact r1
    · rw [if_neg q] at r1
      rw [show decide (so 0 ≠ 39) = true from decide_eq_true q] at r1 ⊢
      exact r1
  · rw [e] at hF
    exact hF _ _ _ _ _ h stX_rf
end ActX
