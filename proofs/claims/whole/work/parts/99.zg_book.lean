/-! the class: book over its state -/
section BooX
variable {G : gG} {d : Nat} {I I' I1 I2 : sI} {J J' : sJ} {P P' P1 P2 : sP} {K K' : sK} {n n' : Nat} {cs cs' : Nat → Option Nat} {a b nx : Nat} {F : Int32 → sI → sJ → sP → sK → Nat → Prop} {FK : Int32 → sI → sJ → Prop} {FV : sI → sJ → Prop}
variable {tl : Nat} {tp : Nat → Nat} {f : Int32} {hd so : Nat → Nat} {nm : Nat → List Nat} {c : Nat} {us : Nat → Nat → Nat} {bm : Nat} {row : Nat → Nat} {ask st : Int32} {wr : Option (Nat → Int32)} {tx : List Nat} {sn : Option (List itT)} {im : Nat → Option imT}
theorem C_tell {l : Nat} (x y : Int32) (hX : shX P K) (h9 : P 0 9 = some b) (S : sC P K b l) (L : rL I l hd) (C : rC I b hd so) (w : wf hd so) (h : ∀ I', I' 0 17 = 1 → I' 32 0 = x → I' 32 1 = y → I' 32 2 = nI (so 0) → I' 32 3 = nI (sm (ltr so) (hd 1)) → (∀ x k, x ≠ 32 → ¬ (x = 0 ∧ k = 17) → I' x k = I x k) → FV I' J) : ckV G (d + 1) mX11_tell [.ref 0, .int x, .int y] I J P K n FV := by
  have ob := S.2.2.2.1
  have ol := S.2.2.2.2.1
  refine bX11_tell_0 hX _ _ ⟨b, h9, S.1, b, h9, S.1, ?_⟩
  have q : ∀ x k, x ≠ 32 → ¬ (x = 0 ∧ k = 17) → ∀ (u v w : Int32), u2 (u2 (u2 (u2 I 0 17 1) 32 0 u) 32 1 v) 32 2 w x k = I x k := fun x k h1 h2 u v w => by simp only [u2]; rw [if_neg (by omega), if_neg (by omega), if_neg (by omega), if_neg h2]
  have e2 : u2 (u2 (u2 I 0 17 1) 32 0 x) 32 1 y b 1 = nI (so 0) := by rw [u2_a _ _ _ _ (by omega), u2_a _ _ _ _ (by omega), u2_a _ _ _ _ (by omega)]; exact C.1
  rw [e2]
  refine C_haveInAll S (rL_of L (fun x k h1 h2 => q x k (by omega) (by omega) _ _ _)) (rC_of C (fun x k h1 h2 => q x k (by omega) (by omega) _ _ _) (wf_casks w)) w (h _ ?_ ?_ ?_ ?_ (u2_s _ _ _ _) (fun x k h1 h2 => ?_))
  · rw [u2_a _ _ _ _ (by decide), u2_a _ _ _ _ (by decide), u2_a _ _ _ _ (by decide), u2_a _ _ _ _ (by decide), u2_s]
  · rw [u2_k _ _ _ _ (by decide), u2_k _ _ _ _ (by decide), u2_k _ _ _ _ (by decide), u2_s]
  · rw [u2_k _ _ _ _ (by decide), u2_k _ _ _ _ (by decide), u2_s]
  · rw [u2_k _ _ _ _ (by decide), u2_s]
  · rw [u2_a _ _ _ _ h1]; exact q x k h1 h2 _ _ _
/-- a book is read: the tape is empty, the fault is v -/
theorem XR_bk {v : Int32} (h : XR I J P K n tl tp f hd nm so c us bm row ask st wr tx sn im) (hX' : shX P' K) (e1 : I' 0 1 = 0) (e3 : I' 0 3 = v) (rg : ∀ j, j < 40 → rgB I' j) (q : ∀ x k, x ≠ 2 → ¬ (22 ≤ x ∧ x ≤ 28) → ¬ (x = 0 ∧ (k = 1 ∨ k = 3)) → I' x k = I x k) (qJ : ∀ x k, ¬ (x = 2 ∧ k = 7) → J' x k = J x k) (qP : ∀ x k, x ≠ 2 → P' x k = P x k) : XR I' J' P' K n 0 tp v hd nm so c us bm row ask st wr tx sn im ∧ stX I I' J J' P P' K K n n := by
  obtain ⟨hX, hn, ⟨h1, h2, h3, ⟨h4, h5⟩, h6, ⟨h7, h8⟩, h9⟩, cs, nx, hh⟩ := h
  obtain ⟨b, eb⟩ := hh.2.2.2.1
  refine ⟨⟨hX', hn, ⟨⟨e1, by omega, fun j hj => by omega⟩, e3, xBl_of h3 (q _ _ (by decide) (by decide) (by decide)) (fun k => q _ _ (by decide) (by decide) (by omega)), ⟨(q _ _ (by decide) (by decide) (by decide)).trans h4, (q _ _ (by decide) (by decide) (by decide)).trans h5⟩, xWr_of h6 (q _ _ (by decide) (by decide) (by decide)) (fun k => q _ _ (by decide) (by decide) (by omega)), ⟨rTg_of h7 (q _ _ (by decide) (by decide) (by decide)) (fun k => q _ _ (by decide) (by decide) (by omega)), h8⟩, rg⟩, cs, nx, XHc_mv hh eb ⟨fun x k g1 _ _ => ⟨q x k (by omega) (by omega) (by omega), qJ x k (by omega)⟩, fun x k g1 _ _ => qP x k (by omega), fun _ _ => rfl⟩ (fun x k _ g2 => qP x k g2) (q _ _ (by decide) (by decide) (by decide)) (q _ _ (by decide) (by decide) (by decide)) (Nat.le_refl _)⟩, fun x k g1 g2 => ⟨q x k (by omega) (by omega) (by omega), qJ x k (by omega), qP x k (by omega)⟩, fun _ _ => rfl, Nat.le_refl _, by omega, by omega⟩
def xbPost (I : sI) (J : sJ) (P : sP) (K : sK) (n : Nat) (tp : Nat → Nat) (hd : Nat → Nat) (nm : Nat → List Nat) (so : Nat → Nat) (c : Nat) (us : Nat → Nat → Nat) (bm : Nat) (row : Nat → Nat) (ask st : Int32) (wr : Option (Nat → Int32)) (tx : List Nat) (sn : Option (List itT)) (im : Nat → Option imT) (lv : Nat) (F : Int32 → sI → sJ → sP → sK → Nat → Prop) (r : pE (Nat × (Nat → bL))) : Prop := match r with
  | .error e => ∀ I' J' P' K' n', XR I' J' P' K' n' 0 tp (nI e.1) hd nm so c us bm row ask st wr tx sn im → stX I I' J J' P P' K K' n n' → F ((-2) - nI e.2) I' J' P' K' n'
  | .ok p => ∀ I' J' P' K' n', XR I' J' P' K' n' 0 tp 0 hd nm (if gB1 lv (lvB hd p.2 p.1 0 so) then (lvB hd p.2 p.1 0 so).2.2 else so) (psC (gB1 lv (lvB hd p.2 p.1 0 so)) c) (psU (gB1 lv (lvB hd p.2 p.1 0 so)) us so) bm row ask st (some (wrB hd (lvB hd p.2 p.1 0 so))) tx sn im → stX I I' J J' P P' K K' n n' → F (if (lvB hd p.2 p.1 0 so).1 = 0 then -1 else nI (lvB hd p.2 p.1 0 so).2.1) I' J' P' K' n'
theorem X_book13 {lv : Nat} (hlv : lv < 2) (bu : bud K n) (h : XR I J P K n tl tp f hd nm so c us bm row ask st wr tx sn im) (hF : xbPost I J P K n tp hd nm so c us bm row ask st wr tx sn im lv F (pBook hd nm tp tl)) : Ok G (d + 11) mX11_book 13 [some (.ref 0), some (.int (nI lv)), none, none, none] [] I J P K n (qI F) := by
  obtain ⟨hX, hn, hL, cs, nx, hh⟩ := id h
  obtain ⟨a, l, p8, e0, oa, oL, Sa, L, N, C, w⟩ := XH_sC hh
  obtain ⟨oa1, oa2, oa3⟩ := oa
  obtain ⟨ol1, ol2, ol3, ol4⟩ := id oL
  have bu1 := bu.1
  have bu2 := bu.2
  have k0 : (K 0).1 = 11 := by rw [shX_K0 hX]
  refine bX11_book_13 hX _ (C_openTape (lim := 400) hX hL.1.1 hL.1.2.1 (by decide) hL.1.2.2 (fun I1 J1 R1 r9 r10 r1 fI1 fJ1 => ?_))
  have qP : ∀ x k, x ≠ 2 → u2 P 2 0 (some 1) x k = P x k := fun x k hx => u2_a _ _ _ _ hx
  have hX1 : shX (u2 P 2 0 (some 1)) K := shX_of hX (fun x k _ h2 _ _ _ _ => qP x k h2) (fun _ _ => rfl)
  have k22 : (K 22).1 = 0 := by rw [shX_K22 hX]
  have k2 : (K 2).1 = 6 := by rw [shX_K2 hX]
  have sL1 : shL (u2 P 2 0 (some 1)) K l := shL_of Sa.2.2.1 (fun x k h1 h2 => qP x k (by omega)) (fun _ _ _ => rfl)
  have Y : lyB (u2 P 2 0 (some 1)) K I1 J1 l hd nm := ⟨sL1, ol1, by rw [fI1 l 0 (by omega) (by omega)]; exact L.1 0 (by decide), w.1, rLN_of N (fun k => fJ1 _ k (by omega))⟩
  have rg1 : ∀ j, j < 40 → rgB I1 j := fun j hj => rgB_eq (fun c hc => fI1 c j (by omega) (by omega)) (hL.2.2.2.2.2.2 j hj)
  refine ⟨k0, 22, shX_P0_7 hX1, k0, 2, shX_P0_2 hX1, k0, a, by rw [qP 0 8 (by decide)]; exact p8, by rw [shC_K Sa.1], l, by rw [qP a 0 (by omega)]; exact Sa.2.1, k22, C_bRead hX1 (u2_s _ _ _ _) R1 Y rg1 ?_⟩
  change bQ6 I1 J1 _ (pBook hd nm tp tl)
  have lo : ∀ (I2 : sI) (J2 : sJ), fBk I1 I2 J1 J2 → ∀ (v : Int32) (x k : Nat), x ≠ 2 → ¬ (22 ≤ x ∧ x ≤ 28) → ¬ (x = 0 ∧ (k = 1 ∨ k = 3)) → u2 I2 0 3 v x k = I x k := fun I2 J2 f2 v x k h1 h2 h3 => by
    have : u2 I2 0 3 v x k = I2 x k := by simp only [u2]; rw [if_neg (by omega)]
    rw [this, f2.1 x k h1 (by omega) (by omega)]
    exact fI1 x k h1 (by omega)
  have l1 : ∀ (I2 : sI) (J2 : sJ), fBk I1 I2 J1 J2 → ∀ (v : Int32), u2 I2 0 3 v 0 1 = 0 := fun I2 J2 f2 v => by rw [u2_k _ _ _ _ (by decide), f2.1 0 1 (by decide) (by decide) (by decide)]; exact r1
  cases e : pBook hd nm tp tl with
  | error q =>
    rw [e] at hF
    intro I2 J2 z9 z10 rg2 f2
    refine ⟨k0, 2, shX_P0_2 hX1, k2, k0, br_t rfl ⟨k0, 2, shX_P0_2 hX1, k2, ?_⟩⟩
    rw [z9, u2_a _ _ _ _ (by decide), z10]
    obtain ⟨s1, s2⟩ := XR_bk (I' := u2 I2 0 3 (nI q.1)) (J' := J2) (v := nI q.1) h hX1 (l1 I2 J2 f2 _) (u2_s _ _ _ _) (fun j hj => rgB_eq (fun c hc => u2_a _ _ _ _ (by omega)) (rg2 j hj)) (lo I2 J2 f2 _) (fun x k z => (f2.2 x k z).trans (fJ1 x k z)) qP
    exact hF _ _ _ _ _ s1 s2
  | ok p =>
    rw [e] at hF
    intro I2 J2 z6 zB rg2 z9 z10 f2
    have ok := pBk_ok 41 0 (fun _ => bL0) (tok tp tl 400 0) p (fun _ => okB_0 hd) (by decide) e
    refine ⟨k0, 2, shX_P0_2 hX1, k2, k0, br_f (by decide) ⟨k0, ?_⟩⟩
    rw [z9, r9]
    have u3 : ∀ x k, ¬ (x = 0 ∧ k = 3) → u2 I2 0 3 0 x k = I2 x k := fun x k z => by simp only [u2]; rw [if_neg z]
    obtain ⟨s1, s2⟩ := XR_bk (I' := u2 I2 0 3 0) (J' := J2) (v := 0) h hX1 (l1 I2 J2 f2 _) (u2_s _ _ _ _) (fun j hj => rgB_eq (fun c hc => u2_a _ _ _ _ (by omega)) (rg2 j hj)) (lo I2 J2 f2 _) (fun x k z => (f2.2 x k z).trans (fJ1 x k z)) qP
    obtain ⟨b9, q1, q2, b8, q3, q4, q5⟩ := X_copyK (G := G) (d := d + 9) (FV := fun I28 J29 P31 K32 n33 => (K32 0).1 = 11 ∧ ∃ b34, P31 0 7 = some b34 ∧ (K32 0).1 = 11 ∧ ∃ b36, P31 0 9 = some b36 ∧ (K32 0).1 = 11 ∧ ∃ b38, P31 0 4 = some b38 ∧ (K32 b34).1 = 0 ∧ ckI G (d + 10) mX0_live [.ref b34, .ref b36, .ref b38] I28 J29 P31 K32 n33 (fun v42 I40 J41 => (K32 0).1 = 11 ∧ ∃ b44, P31 0 7 = some b44 ∧ (K32 b44).1 = 0 ∧ (K32 0).1 = 11 ∧ ckV G (d + 10) mX11_tell [.ref 0, .int v42, .int (I40 b44 7)] I40 J41 P31 K32 n33 (fun I46 J47 => ((nI lv = 1 → ((I40 b44 7 ≤ 0 → ((v42 = 0 → F (-1) I46 J47 P31 K32 n33) ∧ (¬ v42 = 0 → F (I40 b44 7) I46 J47 P31 K32 n33))) ∧ (¬ I40 b44 7 ≤ 0 → (K32 0).1 = 11 ∧ cqV G (d + 10) mX11_keepAct [.ref 0] I46 J47 P31 K32 n33 (fun I52 J53 P55 K56 n57 => ((v42 = 0 → F (-1) I52 J53 P55 K56 n57) ∧ (¬ v42 = 0 → F (I40 b44 7) I52 J53 P55 K56 n57)))))) ∧ (¬ nI lv = 1 → ((v42 = 0 → F (-1) I46 J47 P31 K32 n33) ∧ (¬ v42 = 0 → F (I40 b44 7) I46 J47 P31 K32 n33))))))) s1 (fun cs nx b I3 P3 hX3 T f3 p3 g1 g2 => by
      obtain ⟨pb, ob, lx, oLx, Sx, Lx, Nx, Cx', wx⟩ := XHt_sC T
      have i6 : I3 22 6 = nI p.1 := by rw [f3 22 6 (by omega), u3 22 6 (by decide)]; exact z6
      have iB : ∀ j, j < p.1 → rB6 I3 j (p.2 j) := fun j hj => rB6_eq (fun c h1 h2 => (f3 c j (by omega)).trans (u3 c j (by omega))) (zB j hj)
      have irg : ∀ j, j < 40 → rgB I3 j := fun j hj => rgB_eq (fun c hc => (f3 c j (by omega)).trans (u3 c j (by omega))) (rg2 j hj)
      have inv := lvB_inv ok.2 p.1 0 so w
      refine ⟨k0, 22, shX_P0_7 hX3, k0, b, pb, k0, 4, shX_P0_4 hX3, k22, C_live hX3 Sx ok.2 ok.1 Lx Cx' w i6 iB irg (fun I4 C4 i7 f4 => ⟨k0, 22, shX_P0_7 hX3, k22, k0, ?_⟩)⟩
      unfold frLv dT at f4
      have ol1x := oLx.1
      have oLb := oLx.2.2.2 1 b (by decide) T.2.1
      rw [i7]
      obtain ⟨r, hr⟩ : ∃ r, r = lvB hd p.2 p.1 0 so := ⟨_, rfl⟩
      unfold xbPost at hF
      simp only at hF
      rw [← hr] at C4 inv hF ⊢
      refine C_tell _ _ hX3 pb Sx (rL_of Lx (fun x k h1 h2 => f4 x k (by omega) (by omega))) C4 inv.1 (fun I5 t17 t0 t1 t2 t3 f5 => ?_)
      have f54 : ∀ x k, ¬ (b ≤ x ∧ x ≤ b + 24) → ¬ (5 ≤ x ∧ x ≤ 9) → ¬ (x = 22 ∧ k = 7) → x ≠ 32 → ¬ (x = 0 ∧ k = 17) → I5 x k = u2 I2 0 3 0 x k := fun x k a1 a2 a3 a4 a5 => (f5 x k a4 a5).trans ((f4 x k (by omega) a3).trans (f3 x k a1))
      obtain ⟨h1, h2, h3, ⟨h4, h5⟩, h6, ⟨h7, h8⟩, h9⟩ := s1.2.2.1
      have L5 : XL I5 0 tp 0 bm row ask st (some (wrB hd r)) tx := by
        refine ⟨rTc_of h1 (f54 _ _ (by omega) (by omega) (by omega) (by omega) (by omega)) (fun k => f54 _ _ (by omega) (by omega) (by omega) (by omega) (by omega)), (f54 _ _ (by omega) (by omega) (by omega) (by omega) (by omega)).trans h2, xBl_of h3 (f54 _ _ (by omega) (by omega) (by omega) (by omega) (by omega)) (fun k => f54 _ _ (by omega) (by omega) (by omega) (by omega) (by omega)), ⟨(f54 _ _ (by omega) (by omega) (by omega) (by omega) (by omega)).trans h4, (f54 _ _ (by omega) (by omega) (by omega) (by omega) (by omega)).trans h5⟩, ⟨t17, fun k hk => ?_⟩, ⟨rTg_of h7 (f54 _ _ (by omega) (by omega) (by omega) (by omega) (by omega)) (fun k => f54 _ _ (by omega) (by omega) (by omega) (by omega) (by omega)), h8⟩, fun j hj => rgB_eq (fun c hc => f54 c j (by omega) (by omega) (by omega) (by omega) (by omega)) (h9 j hj)⟩
        unfold wrB
        rcases (show k = 0 ∨ k = 1 ∨ k = 2 ∨ k = 3 by omega) with q | q | q | q
        · subst q; exact t0
        · subst q; exact t1
        · subst q; exact t2
        · subst q; exact t3
      have T5 : XHt cs nx b r.2.2 I5 J2 P3 K n hd nm so c us sn im := by
        have C5 : rC I5 b hd r.2.2 := rC_of C4 (fun x k h1 h2 => f5 x k (by omega) (by omega)) (wf_casks w)
        refine XHt_fr T (fun x k a1 a2 => (f5 x k (by omega) (by omega)).trans (f4 x k (by omega) (by omega))) ((f5 _ _ (by omega) (by omega)).trans (f4 _ _ (by omega) (by omega))) ((f5 _ _ (by omega) (by omega)).trans (f4 _ _ (by omega) (by omega))) C5 inv.1
      have st5 : stX I I5 J J2 P P3 K K n n := ⟨fun x k g3 g4 => ⟨(f54 x k (by omega) (by omega) (by omega) (by omega) (by omega)).trans (s2.1 x k g3 g4).1, (s2.1 x k g3 g4).2.1, (p3 x k (by omega)).trans (s2.1 x k g3 g4).2.2⟩, fun _ _ => rfl, Nat.le_refl _, by omega, by omega⟩
      have ans : ∀ (I6 : sI) (J6 : sJ) (P6 : sP) (K6 : sK) (n6 : Nat), F (if r.1 = 0 then -1 else nI r.2.1) I6 J6 P6 K6 n6 → ((nI r.1 = 0 → F (-1) I6 J6 P6 K6 n6) ∧ (¬ nI r.1 = 0 → F (nI r.2.1) I6 J6 P6 K6 n6)) := fun I6 J6 P6 K6 n6 hq => by
        have r50 := inv.2.2.2
        by_cases q : r.1 = 0
        · rw [if_pos q] at hq; exact br_t (by rw [q]; rfl) hq
        · rw [if_neg q] at hq; exact br_f (fun z => q ((nI_eq (b := 0) (by omega) (by decide)).mp z)) hq
      have r40 := inv.2.2.1
      have ok1 := ok.1
      have no : gB1 lv r = false → F (if r.1 = 0 then -1 else nI r.2.1) I5 J2 P3 K n := fun q => by
        refine hF _ _ _ _ _ ⟨hX3, hn, L5, cs, nx, ?_⟩ st5
        rw [q]
        exact T5.1
      refine ⟨fun q => ⟨fun q2 => ans _ _ _ _ _ (no ?_), fun q2 => ⟨k0, X_keepAct hX3 hn (by omega) (by omega) T5 (fun I6 J6 P6 K6 n6 y1 y2 y3 => ans _ _ _ _ _ ?_)⟩⟩, fun q => ans _ _ _ _ _ (no ?_)⟩
      · have : r.2.1 = 0 := by have := (nI_leI (b := 0) (by omega) (by decide)).mp q2; omega
        unfold gB1
        rw [this]
        exact Bool.and_false _
      · have q3 : 0 < r.2.1 := by
          by_cases z : r.2.1 = 0
          · exact absurd (show nI r.2.1 ≤ 0 by rw [z]; decide) q2
          · omega
        have q4 : lv = 1 := (nI_eq (b := 1) (by omega) (by decide)).mp q
        have gt : gB1 lv r = true := by unfold gB1; rw [decide_eq_true q4, decide_eq_true q3]; rfl
        obtain ⟨w1, w2, w3, w4, w5, w6, w7⟩ := y3
        refine hF _ _ _ _ _ ⟨y1, by omega, XL_of L5 (fun x k hx ns => w1 x k (by omega) (by unfold scr at ns; omega)), ?_⟩ ⟨fun x k g3 g4 => ⟨(w1 x k (by omega) (by omega)).trans (st5.1 x k g3 g4).1, (w2 x k (by omega)).trans (st5.1 x k g3 g4).2.1, (w3 x k (by omega) (by omega) (by omega)).trans (st5.1 x k g3 g4).2.2⟩, w4, w5, by omega, by omega⟩
        rw [gt]
        exact y2
      · unfold gB1
        rw [decide_eq_false (fun z => q (by rw [z]; rfl))]
        rfl)
    exact ⟨b9, q1, k0, b8, q3, by rw [shC_K q2], q5⟩
theorem X_book (x : Int32) (bu : bud K n) (h : XR I J P K n tl tp f hd nm so c us bm row ask st wr tx sn im) (hF0 : inB x 2 = false → F (-1000) I J P K n) (hF : ∀ lv, lv < 2 → x = nI lv → xbPost I J P K n tp hd nm so c us bm row ask st wr tx sn im lv F (pBook hd nm tp tl)) : cqI G (d + 11) mX11_book [.ref 0, .int x] I J P K n F := by
  refine bX11_book_0 _ ⟨fun q => ?_, fun q => ⟨fun q2 => ?_, fun q2 => hF0 ?_⟩⟩
  · subst q; exact X_book13 (lv := 0) (by decide) bu h (hF 0 (by decide) rfl)
  · subst q2; exact X_book13 (lv := 1) (by decide) bu h (hF 1 (by decide) rfl)
  · cases e : inB x 2 with
    | false => rfl
    | true =>
      obtain ⟨k, hk, rfl⟩ := inB_t e
      rcases (show k = 0 ∨ k = 1 by omega) with z | z
      · subst z; exact absurd rfl q
      · subst z; exact absurd rfl q2
end BooX
