/-! the reference: all of its state; both states side by side -/
def mIm (I : sI) (J : sJ) (k : Nat) (q : Option imT) : Prop := match q with
  | none => I 101 k = 0
  | some q => I 101 k = 1 ∧ rM (fun _ i => I 95 (1920 * k + i)) q.1.1 q.1.2.2 ∧ rNm (fun _ i => J 100 (5 * k + i)) q.1.1 q.1.2.1 ∧ rSn (fun _ i => I 95 (1920 * k + i)) q.2
def MR (I : sI) (J : sJ) (P : sP) (K : sK) (tl : Nat) (tp : Nat → Nat) (f : Int32) (hd : Nat → Nat) (nm : Nat → List Nat) (so : Nat → Nat) (c : Nat) (us : Nat → Nat → Nat) (bm : Nat) (row : Nat → Nat) (ask st : Int32) (wr : Option (Nat → Int32)) (tx : List Nat) (sn : Option (List itT)) (im : Nat → Option imT) : Prop := shM P K ∧ rT I tl tp ∧ I 91 10 = f ∧ rM I hd so ∧ rNm J hd nm ∧ rU I c us ∧ rBl I bm row ∧ I 91 40 = ask ∧ I 91 41 = st ∧ rWr I wr ∧ rTx I tx ∧ rSn I sn ∧ ∀ k, k < 2 → mIm I J k (im k)
section MdX
variable {G : gG} {d : Nat} {I I' I1 I2 : sI} {J J' : sJ} {P P' P1 P2 : sP} {K K' : sK} {n n' : Nat} {cs cs' : Nat → Option Nat} {a b nx : Nat} {F : Int32 → sI → sJ → sP → sK → Nat → Prop} {FK : Int32 → sI → sJ → Prop}
variable {tl : Nat} {tp : Nat → Nat} {f : Int32} {hd so : Nat → Nat} {nm : Nat → List Nat} {c : Nat} {us : Nat → Nat → Nat} {bm : Nat} {row : Nat → Nat} {ask st : Int32} {wr : Option (Nat → Int32)} {tx : List Nat} {sn : Option (List itT)} {im : Nat → Option imT}
theorem rT_f (h : rT I tl tp) (e : I' 91 2 = I 91 2) (e2 : ∀ k, I' 92 k = I 92 k) : rT I' tl tp := ⟨e.trans h.1, h.2.1, fun j hj => ⟨(e2 j).trans (h.2.2 j hj).1, (h.2.2 j hj).2⟩⟩
theorem rM_f (h : rM I hd so) (e : ∀ k, k < 1678 → I' 93 k = I 93 k) : rM I' hd so := ⟨fun k hk => (e k (by omega)).trans (h.1 k hk), fun j hj => (e _ (by omega)).trans (h.2 j hj)⟩
theorem rNm_f (h : rNm J hd nm) (e : ∀ k, J' 98 k = J 98 k) : rNm J' hd nm := fun s hs => ⟨(e s).trans (h s hs).1, (h s hs).2⟩
theorem rU_f (h : rU I c us) (e : I' 91 27 = I 91 27) (e2 : ∀ k, I' 96 k = I 96 k) : rU I' c us := ⟨e.trans h.1, h.2.1, fun i j hi hj => (e2 _).trans (h.2.2 i j hi hj)⟩
theorem rBl_f (h : rBl I bm row) (e : I' 91 37 = I 91 37) (e2 : ∀ k, I' 109 k = I 109 k) : rBl I' bm row := ⟨e.trans h.1, h.2.1, fun k hk => (e2 k).trans (h.2.2 k hk)⟩
theorem rWr_f (h : rWr I wr) (e : I' 91 48 = I 91 48) (e2 : ∀ k, I' 114 k = I 114 k) : rWr I' wr := by
  cases wr with
  | none => exact e.trans h
  | some g => exact ⟨e.trans h.1, fun k hk => (e2 k).trans (h.2 k hk)⟩
theorem rTx_f (h : rTx I tx) (e : I' 91 43 = I 91 43) (e2 : ∀ k, I' 112 k = I 112 k) : rTx I' tx := ⟨e.trans h.1, fun k hk => (e2 k).trans (h.2 k hk)⟩
theorem rSn_f (h : rSn I sn) (e : ∀ k, 1678 ≤ k → I' 93 k = I 93 k) : rSn I' sn := by
  cases sn with
  | none => exact (e _ (by omega)).trans h
  | some L =>
    obtain ⟨h1, nd, top, h2, h3, h4, h5, h6⟩ := h
    exact ⟨(e _ (by omega)).trans h1, nd, top, (e _ (by omega)).trans h2, h3, h4, fun i hi => ⟨(e _ (by omega)).trans (h5 i hi).1, (e _ (by omega)).trans (h5 i hi).2.1, (e _ (by omega)).trans (h5 i hi).2.2.1, (e _ (by omega)).trans (h5 i hi).2.2.2⟩, h6⟩
theorem mIm_f {k : Nat} {q : Option imT} (h : mIm I J k q) (e : ∀ i, I' 95 i = I 95 i) (e2 : I' 101 k = I 101 k) (e3 : ∀ i, J' 100 i = J 100 i) : mIm I' J' k q := by
  cases q with
  | none => exact e2.trans h
  | some q =>
    obtain ⟨h1, h2, h3, h4⟩ := h
    exact ⟨e2.trans h1, rM_f h2 (fun i _ => e _), rNm_f h3 (fun i => e3 _), rSn_f h4 (fun i _ => e _)⟩
theorem shM_of (h : shM P K) (hP : ∀ k, P' 91 k = P 91 k) (hK : ∀ x, 91 ≤ x → x ≤ 115 → K' x = K x) : shM P' K' := by
  unfold shM at h ⊢
  exact ⟨(hK _ (by decide) (by decide)).trans h.1, (hK _ (by decide) (by decide)).trans h.2.1, (hK _ (by decide) (by decide)).trans h.2.2.1, (hK _ (by decide) (by decide)).trans h.2.2.2.1, (hK _ (by decide) (by decide)).trans h.2.2.2.2.1, (hK _ (by decide) (by decide)).trans h.2.2.2.2.2.1, (hK _ (by decide) (by decide)).trans h.2.2.2.2.2.2.1, (hK _ (by decide) (by decide)).trans h.2.2.2.2.2.2.2.1, (hK _ (by decide) (by decide)).trans h.2.2.2.2.2.2.2.2.1, (hK _ (by decide) (by decide)).trans h.2.2.2.2.2.2.2.2.2.1, (hK _ (by decide) (by decide)).trans h.2.2.2.2.2.2.2.2.2.2.1, (hK _ (by decide) (by decide)).trans h.2.2.2.2.2.2.2.2.2.2.2.1, (hK _ (by decide) (by decide)).trans h.2.2.2.2.2.2.2.2.2.2.2.2.1, (hK _ (by decide) (by decide)).trans h.2.2.2.2.2.2.2.2.2.2.2.2.2.1, (hK _ (by decide) (by decide)).trans h.2.2.2.2.2.2.2.2.2.2.2.2.2.2.1, (hK _ (by decide) (by decide)).trans h.2.2.2.2.2.2.2.2.2.2.2.2.2.2.2.1, (hK _ (by decide) (by decide)).trans h.2.2.2.2.2.2.2.2.2.2.2.2.2.2.2.2.1, (hK _ (by decide) (by decide)).trans h.2.2.2.2.2.2.2.2.2.2.2.2.2.2.2.2.2.1, (hK _ (by decide) (by decide)).trans h.2.2.2.2.2.2.2.2.2.2.2.2.2.2.2.2.2.2.1, (hK _ (by decide) (by decide)).trans h.2.2.2.2.2.2.2.2.2.2.2.2.2.2.2.2.2.2.2.1, (hK _ (by decide) (by decide)).trans h.2.2.2.2.2.2.2.2.2.2.2.2.2.2.2.2.2.2.2.2.1, (hK _ (by decide) (by decide)).trans h.2.2.2.2.2.2.2.2.2.2.2.2.2.2.2.2.2.2.2.2.2.1, (hK _ (by decide) (by decide)).trans h.2.2.2.2.2.2.2.2.2.2.2.2.2.2.2.2.2.2.2.2.2.2.1, (hK _ (by decide) (by decide)).trans h.2.2.2.2.2.2.2.2.2.2.2.2.2.2.2.2.2.2.2.2.2.2.2.1, (hK _ (by decide) (by decide)).trans h.2.2.2.2.2.2.2.2.2.2.2.2.2.2.2.2.2.2.2.2.2.2.2.2.1, (hP _).trans h.2.2.2.2.2.2.2.2.2.2.2.2.2.2.2.2.2.2.2.2.2.2.2.2.2.1, (hP _).trans h.2.2.2.2.2.2.2.2.2.2.2.2.2.2.2.2.2.2.2.2.2.2.2.2.2.2.1, (hP _).trans h.2.2.2.2.2.2.2.2.2.2.2.2.2.2.2.2.2.2.2.2.2.2.2.2.2.2.2.1, (hP _).trans h.2.2.2.2.2.2.2.2.2.2.2.2.2.2.2.2.2.2.2.2.2.2.2.2.2.2.2.2.1, (hP _).trans h.2.2.2.2.2.2.2.2.2.2.2.2.2.2.2.2.2.2.2.2.2.2.2.2.2.2.2.2.2.1, (hP _).trans h.2.2.2.2.2.2.2.2.2.2.2.2.2.2.2.2.2.2.2.2.2.2.2.2.2.2.2.2.2.2.1, (hP _).trans h.2.2.2.2.2.2.2.2.2.2.2.2.2.2.2.2.2.2.2.2.2.2.2.2.2.2.2.2.2.2.2.1, (hP _).trans h.2.2.2.2.2.2.2.2.2.2.2.2.2.2.2.2.2.2.2.2.2.2.2.2.2.2.2.2.2.2.2.2.1, (hP _).trans h.2.2.2.2.2.2.2.2.2.2.2.2.2.2.2.2.2.2.2.2.2.2.2.2.2.2.2.2.2.2.2.2.2.1, (hP _).trans h.2.2.2.2.2.2.2.2.2.2.2.2.2.2.2.2.2.2.2.2.2.2.2.2.2.2.2.2.2.2.2.2.2.2.1, (hP _).trans h.2.2.2.2.2.2.2.2.2.2.2.2.2.2.2.2.2.2.2.2.2.2.2.2.2.2.2.2.2.2.2.2.2.2.2.1, (hP _).trans h.2.2.2.2.2.2.2.2.2.2.2.2.2.2.2.2.2.2.2.2.2.2.2.2.2.2.2.2.2.2.2.2.2.2.2.2.1, (hP _).trans h.2.2.2.2.2.2.2.2.2.2.2.2.2.2.2.2.2.2.2.2.2.2.2.2.2.2.2.2.2.2.2.2.2.2.2.2.2.1, (hP _).trans h.2.2.2.2.2.2.2.2.2.2.2.2.2.2.2.2.2.2.2.2.2.2.2.2.2.2.2.2.2.2.2.2.2.2.2.2.2.2.1, (hP _).trans h.2.2.2.2.2.2.2.2.2.2.2.2.2.2.2.2.2.2.2.2.2.2.2.2.2.2.2.2.2.2.2.2.2.2.2.2.2.2.2.1, (hP _).trans h.2.2.2.2.2.2.2.2.2.2.2.2.2.2.2.2.2.2.2.2.2.2.2.2.2.2.2.2.2.2.2.2.2.2.2.2.2.2.2.2.1, (hP _).trans h.2.2.2.2.2.2.2.2.2.2.2.2.2.2.2.2.2.2.2.2.2.2.2.2.2.2.2.2.2.2.2.2.2.2.2.2.2.2.2.2.2.1, (hP _).trans h.2.2.2.2.2.2.2.2.2.2.2.2.2.2.2.2.2.2.2.2.2.2.2.2.2.2.2.2.2.2.2.2.2.2.2.2.2.2.2.2.2.2.1, (hP _).trans h.2.2.2.2.2.2.2.2.2.2.2.2.2.2.2.2.2.2.2.2.2.2.2.2.2.2.2.2.2.2.2.2.2.2.2.2.2.2.2.2.2.2.2.1, (hP _).trans h.2.2.2.2.2.2.2.2.2.2.2.2.2.2.2.2.2.2.2.2.2.2.2.2.2.2.2.2.2.2.2.2.2.2.2.2.2.2.2.2.2.2.2.2.1, (hP _).trans h.2.2.2.2.2.2.2.2.2.2.2.2.2.2.2.2.2.2.2.2.2.2.2.2.2.2.2.2.2.2.2.2.2.2.2.2.2.2.2.2.2.2.2.2.2.1, (hP _).trans h.2.2.2.2.2.2.2.2.2.2.2.2.2.2.2.2.2.2.2.2.2.2.2.2.2.2.2.2.2.2.2.2.2.2.2.2.2.2.2.2.2.2.2.2.2.2.1, (hP _).trans h.2.2.2.2.2.2.2.2.2.2.2.2.2.2.2.2.2.2.2.2.2.2.2.2.2.2.2.2.2.2.2.2.2.2.2.2.2.2.2.2.2.2.2.2.2.2.2.1, (hP _).trans h.2.2.2.2.2.2.2.2.2.2.2.2.2.2.2.2.2.2.2.2.2.2.2.2.2.2.2.2.2.2.2.2.2.2.2.2.2.2.2.2.2.2.2.2.2.2.2.2⟩
/-- the class has been called -/
theorem MR_cl (hn : 116 < n) (h : MR I J P K tl tp f hd nm so c us bm row ask st wr tx sn im) (s : stX I I' J J' P P' K K' n n') : MR I' J' P' K' tl tp f hd nm so c us bm row ask st wr tx sn im := by
  obtain ⟨m1, m2, m3, m4, m5, m6, m7, m8, m9, m10, m11, m12, m13⟩ := h
  have q : ∀ x k, 91 ≤ x ∧ x ≤ 115 → I' x k = I x k := fun x k z => (s.1 x k z.1 (by omega)).1
  have qJ : ∀ x k, 91 ≤ x ∧ x ≤ 115 → J' x k = J x k := fun x k z => (s.1 x k z.1 (by omega)).2.1
  replace m1 : shM P' K' := shM_of m1 (fun k => (s.1 91 k (by omega) (by omega)).2.2) (fun x h1 h2 => s.2.1 x (by omega))
  exact ⟨m1, rT_f m2 (q _ _ (by omega)) (fun k => (q _ _ (by omega))), (q _ _ (by omega)).trans m3, rM_f m4 (fun k hk => (q _ _ (by omega))), rNm_f m5 (fun k => (qJ _ _ (by omega))), rU_f m6 (q _ _ (by omega)) (fun k => (q _ _ (by omega))), rBl_f m7 (q _ _ (by omega)) (fun k => (q _ _ (by omega))), (q _ _ (by omega)).trans m8, (q _ _ (by omega)).trans m9, rWr_f m10 (q _ _ (by omega)) (fun k => (q _ _ (by omega))), rTx_f m11 (q _ _ (by omega)) (fun k => (q _ _ (by omega))), rSn_f m12 (fun k hk => (q _ _ (by omega))), fun k hk => mIm_f (m13 k hk) (fun i => (q _ _ (by omega))) (q _ _ (by omega)) (fun i => (qJ _ _ (by omega)))⟩
/-- what a call of the reference leaves alone -/
def mdX (I I' : sI) (J J' : sJ) : Prop := ∀ x k, ¬ (91 ≤ x ∧ x ≤ 115) → I' x k = I x k ∧ J' x k = J x k
theorem XR_md (h : XR I J P K n tl tp f hd nm so c us bm row ask st wr tx sn im) (s : mdX I I' J J') : XR I' J' P K n tl tp f hd nm so c us bm row ask st wr tx sn im := by
  obtain ⟨hX, hn, hL, cs, nx, lk, g, iI, t, C0, A, S, M⟩ := h
  have ff : fD (fun x => 91 ≤ x ∧ x ≤ 115) n I I' J J' P P K K := ⟨fun x k _ _ z => ⟨(s x k z).1, (s x k z).2, rfl⟩, fun _ _ => rfl⟩
  have d2 : ∀ x m y, outC n cs x m → x ≤ y → y ≤ x + m → ¬ (91 ≤ y ∧ y ≤ 115) := fun x m y o h1 h2 => by
    have := o.2.1
    omega
  have hs := subC_rf n cs
  have key : ∀ (i : Nat) (hd so : Nat → Nat) (nm : Nat → List Nat), i < 12 → cR I J P K n cs (cs i) hd nm so → cR I' J' P K n cs (cs i) hd nm so := fun i hd so nm hi hc => by
    obtain ⟨a, l, e, q⟩ := hc
    have oa := (g i a hi e).2.1
    rw [e]
    exact cR_mvD ⟨a, l, rfl, q⟩ oa ff (fun x h1 h2 => by have := oa.2.1; omega) d2 (Nat.le_refl _) hs
  refine ⟨hX, hn, XL_of hL (fun x k hx _ => (s x k (by omega)).1), cs, nx, lk, g, ⟨(s _ _ (by omega)).1.trans iI.1, iI.2.1, (s _ _ (by omega)).1.trans iI.2.2.1, iI.2.2.2⟩, t, key 0 _ _ _ (by omega) C0, fun i hi => key _ _ _ _ (by omega) (A i hi), syC_mvD S ff d2 (Nat.le_refl _) hs, fun k hk => ?_⟩
  have Mk := M k hk
  cases e : im k with
  | none => rw [e] at Mk; exact Mk
  | some q =>
    rw [e] at Mk
    exact ⟨key _ _ _ _ (by omega) Mk.1, syC_mvD Mk.2 ff d2 (Nat.le_refl _) hs⟩
theorem md_0 (v : Int32) : mdX I (u2 I 91 0 v) J J := fun x k z => ⟨u2_a _ _ _ _ (by omega), rfl⟩
theorem MR_0 (v : Int32) (h : MR I J P K tl tp f hd nm so c us bm row ask st wr tx sn im) : MR (u2 I 91 0 v) J P K tl tp f hd nm so c us bm row ask st wr tx sn im := by
  obtain ⟨m1, m2, m3, m4, m5, m6, m7, m8, m9, m10, m11, m12, m13⟩ := h
  have q : ∀ x k, ¬ (x = 91 ∧ k = 0) → u2 I 91 0 v x k = I x k := fun x k z => by simp only [u2]; rw [if_neg z]
  have qJ : ∀ x k, 0 ≤ x → J x k = J x k := fun _ _ _ => rfl
  exact ⟨m1, rT_f m2 (q _ _ (by omega)) (fun k => (q _ _ (by omega))), (q _ _ (by omega)).trans m3, rM_f m4 (fun k hk => (q _ _ (by omega))), rNm_f m5 (fun k => (qJ _ _ (by omega))), rU_f m6 (q _ _ (by omega)) (fun k => (q _ _ (by omega))), rBl_f m7 (q _ _ (by omega)) (fun k => (q _ _ (by omega))), (q _ _ (by omega)).trans m8, (q _ _ (by omega)).trans m9, rWr_f m10 (q _ _ (by omega)) (fun k => (q _ _ (by omega))), rTx_f m11 (q _ _ (by omega)) (fun k => (q _ _ (by omega))), rSn_f m12 (fun k hk => (q _ _ (by omega))), fun k hk => mIm_f (m13 k hk) (fun i => (q _ _ (by omega))) (q _ _ (by omega)) (fun i => (qJ _ _ (by omega)))⟩
theorem Y_draw (x z : Int32) (w : wf hd so) (h : MR I J P K tl tp f hd nm so c us bm row ask st wr tx sn im) (hF : ∀ I' J', MR I' J' P K tl tp f hd nm (oS hd so (qDraw hd x z)) (psC (oG hd so (qDraw hd x z)) c) (psU (oG hd so (qDraw hd x z)) us so) bm row ask st wr tx sn im → mdX I I' J J' → FK (oW hd so (qDraw hd x z)) I' J') : ckI G (d + 8) mX12_draw [.ref 91, .int x, .int z] I J P K n FK := by
  obtain ⟨m1, m2, m3, m4, m5, m6, m7, m8, m9, m10, m11, m12, m13⟩ := h
  have z0 : ∀ x k, ¬ (x = 91 ∧ k = 0) → u2 I 91 0 0 x k = I x k := fun x k z => by simp only [u2]; rw [if_neg z]
  have qJ : ∀ x k, 0 ≤ x → J x k = J x k := fun _ _ _ => rfl
  refine M_draw x z m1 m4 w m6 (fun I' r1 r2 f => ?_)
  have q : ∀ x k, x ≠ 93 → x ≠ 96 → ¬ (102 ≤ x ∧ x ≤ 107) → ¬ (x = 91 ∧ (k = 27 ∨ k = 0)) → I' x k = I x k := fun x k a1 a2 a3 a4 => (f.1 x k a1 a2 a3 (by omega)).trans (z0 x k (by omega))
  have q9 : ∀ k, 1678 ≤ k → I' 93 k = I 93 k := fun k hk => (f.2 k (Or.inr hk)).trans (z0 _ _ (by omega))
  exact hF _ _ ⟨m1, rT_f m2 (q _ _ (by omega) (by omega) (by omega) (by omega)) (fun k => (q _ _ (by omega) (by omega) (by omega) (by omega))), (q _ _ (by omega) (by omega) (by omega) (by omega)).trans m3, r1, rNm_f m5 (fun k => (qJ _ _ (by omega))), r2, rBl_f m7 (q _ _ (by omega) (by omega) (by omega) (by omega)) (fun k => (q _ _ (by omega) (by omega) (by omega) (by omega))), (q _ _ (by omega) (by omega) (by omega) (by omega)).trans m8, (q _ _ (by omega) (by omega) (by omega) (by omega)).trans m9, rWr_f m10 (q _ _ (by omega) (by omega) (by omega) (by omega)) (fun k => (q _ _ (by omega) (by omega) (by omega) (by omega))), rTx_f m11 (q _ _ (by omega) (by omega) (by omega) (by omega)) (fun k => (q _ _ (by omega) (by omega) (by omega) (by omega))), rSn_f m12 q9, fun k hk => mIm_f (m13 k hk) (fun i => (q _ _ (by omega) (by omega) (by omega) (by omega))) (q _ _ (by omega) (by omega) (by omega) (by omega)) (fun i => (qJ _ _ (by omega)))⟩ (fun x k z => ⟨q x k (by omega) (by omega) (by omega) (by omega), rfl⟩)
theorem Y_run (x : Int32) (w : wf hd so) (h : MR I J P K tl tp f hd nm so c us bm row ask st wr tx sn im) (hF : ∀ I' J', MR I' J' P K tl tp f hd nm (oS hd so (qRun hd x)) (psC (oG hd so (qRun hd x)) c) (psU (oG hd so (qRun hd x)) us so) bm row ask st wr tx sn im → mdX I I' J J' → FK (oW hd so (qRun hd x)) I' J') : ckI G (d + 8) mX12_run [.ref 91, .int x] I J P K n FK := by
  obtain ⟨m1, m2, m3, m4, m5, m6, m7, m8, m9, m10, m11, m12, m13⟩ := h
  have z0 : ∀ x k, ¬ (x = 91 ∧ k = 0) → u2 I 91 0 0 x k = I x k := fun x k z => by simp only [u2]; rw [if_neg z]
  have qJ : ∀ x k, 0 ≤ x → J x k = J x k := fun _ _ _ => rfl
  refine M_run x m1 m4 w m6 (fun I' r1 r2 f => ?_)
  have q : ∀ x k, x ≠ 93 → x ≠ 96 → ¬ (102 ≤ x ∧ x ≤ 107) → ¬ (x = 91 ∧ (k = 27 ∨ k = 0)) → I' x k = I x k := fun x k a1 a2 a3 a4 => (f.1 x k a1 a2 a3 (by omega)).trans (z0 x k (by omega))
  have q9 : ∀ k, 1678 ≤ k → I' 93 k = I 93 k := fun k hk => (f.2 k (Or.inr hk)).trans (z0 _ _ (by omega))
  exact hF _ _ ⟨m1, rT_f m2 (q _ _ (by omega) (by omega) (by omega) (by omega)) (fun k => (q _ _ (by omega) (by omega) (by omega) (by omega))), (q _ _ (by omega) (by omega) (by omega) (by omega)).trans m3, r1, rNm_f m5 (fun k => (qJ _ _ (by omega))), r2, rBl_f m7 (q _ _ (by omega) (by omega) (by omega) (by omega)) (fun k => (q _ _ (by omega) (by omega) (by omega) (by omega))), (q _ _ (by omega) (by omega) (by omega) (by omega)).trans m8, (q _ _ (by omega) (by omega) (by omega) (by omega)).trans m9, rWr_f m10 (q _ _ (by omega) (by omega) (by omega) (by omega)) (fun k => (q _ _ (by omega) (by omega) (by omega) (by omega))), rTx_f m11 (q _ _ (by omega) (by omega) (by omega) (by omega)) (fun k => (q _ _ (by omega) (by omega) (by omega) (by omega))), rSn_f m12 q9, fun k hk => mIm_f (m13 k hk) (fun i => (q _ _ (by omega) (by omega) (by omega) (by omega))) (q _ _ (by omega) (by omega) (by omega) (by omega)) (fun i => (qJ _ _ (by omega)))⟩ (fun x k z => ⟨q x k (by omega) (by omega) (by omega) (by omega), rfl⟩)
theorem Y_top  (w : wf hd so) (h : MR I J P K tl tp f hd nm so c us bm row ask st wr tx sn im) (hF : ∀ I' J', MR I' J' P K tl tp f hd nm (oS hd so (qTop)) (psC (oG hd so (qTop)) c) (psU (oG hd so (qTop)) us so) bm row ask st wr tx sn im → mdX I I' J J' → FK (oW hd so (qTop)) I' J') : ckI G (d + 8) mX12_top [.ref 91] I J P K n FK := by
  obtain ⟨m1, m2, m3, m4, m5, m6, m7, m8, m9, m10, m11, m12, m13⟩ := h
  have z0 : ∀ x k, ¬ (x = 91 ∧ k = 0) → u2 I 91 0 0 x k = I x k := fun x k z => by simp only [u2]; rw [if_neg z]
  have qJ : ∀ x k, 0 ≤ x → J x k = J x k := fun _ _ _ => rfl
  refine M_top  m1 m4 w m6 (fun I' r1 r2 f => ?_)
  have q : ∀ x k, x ≠ 93 → x ≠ 96 → ¬ (102 ≤ x ∧ x ≤ 107) → ¬ (x = 91 ∧ (k = 27 ∨ k = 0)) → I' x k = I x k := fun x k a1 a2 a3 a4 => (f.1 x k a1 a2 a3 (by omega)).trans (z0 x k (by omega))
  have q9 : ∀ k, 1678 ≤ k → I' 93 k = I 93 k := fun k hk => (f.2 k (Or.inr hk)).trans (z0 _ _ (by omega))
  exact hF _ _ ⟨m1, rT_f m2 (q _ _ (by omega) (by omega) (by omega) (by omega)) (fun k => (q _ _ (by omega) (by omega) (by omega) (by omega))), (q _ _ (by omega) (by omega) (by omega) (by omega)).trans m3, r1, rNm_f m5 (fun k => (qJ _ _ (by omega))), r2, rBl_f m7 (q _ _ (by omega) (by omega) (by omega) (by omega)) (fun k => (q _ _ (by omega) (by omega) (by omega) (by omega))), (q _ _ (by omega) (by omega) (by omega) (by omega)).trans m8, (q _ _ (by omega) (by omega) (by omega) (by omega)).trans m9, rWr_f m10 (q _ _ (by omega) (by omega) (by omega) (by omega)) (fun k => (q _ _ (by omega) (by omega) (by omega) (by omega))), rTx_f m11 (q _ _ (by omega) (by omega) (by omega) (by omega)) (fun k => (q _ _ (by omega) (by omega) (by omega) (by omega))), rSn_f m12 q9, fun k hk => mIm_f (m13 k hk) (fun i => (q _ _ (by omega) (by omega) (by omega) (by omega))) (q _ _ (by omega) (by omega) (by omega) (by omega)) (fun i => (qJ _ _ (by omega)))⟩ (fun x k z => ⟨q x k (by omega) (by omega) (by omega) (by omega), rfl⟩)
theorem Y_tip (x y z : Int32) (w : wf hd so) (h : MR I J P K tl tp f hd nm so c us bm row ask st wr tx sn im) (hF : ∀ I' J', MR I' J' P K tl tp f hd nm (oS hd so (qTip hd x y z)) (psC (oG hd so (qTip hd x y z)) c) (psU (oG hd so (qTip hd x y z)) us so) bm row ask st wr tx sn im → mdX I I' J J' → FK (oW hd so (qTip hd x y z)) I' J') : ckI G (d + 8) mX12_tip [.ref 91, .int x, .int y, .int z] I J P K n FK := by
  obtain ⟨m1, m2, m3, m4, m5, m6, m7, m8, m9, m10, m11, m12, m13⟩ := h
  have z0 : ∀ x k, ¬ (x = 91 ∧ k = 0) → u2 I 91 0 0 x k = I x k := fun x k z => by simp only [u2]; rw [if_neg z]
  have qJ : ∀ x k, 0 ≤ x → J x k = J x k := fun _ _ _ => rfl
  refine M_tip x y z m1 m4 w m6 (fun I' r1 r2 f => ?_)
  have q : ∀ x k, x ≠ 93 → x ≠ 96 → ¬ (102 ≤ x ∧ x ≤ 107) → ¬ (x = 91 ∧ (k = 27 ∨ k = 0)) → I' x k = I x k := fun x k a1 a2 a3 a4 => (f.1 x k a1 a2 a3 (by omega)).trans (z0 x k (by omega))
  have q9 : ∀ k, 1678 ≤ k → I' 93 k = I 93 k := fun k hk => (f.2 k (Or.inr hk)).trans (z0 _ _ (by omega))
  exact hF _ _ ⟨m1, rT_f m2 (q _ _ (by omega) (by omega) (by omega) (by omega)) (fun k => (q _ _ (by omega) (by omega) (by omega) (by omega))), (q _ _ (by omega) (by omega) (by omega) (by omega)).trans m3, r1, rNm_f m5 (fun k => (qJ _ _ (by omega))), r2, rBl_f m7 (q _ _ (by omega) (by omega) (by omega) (by omega)) (fun k => (q _ _ (by omega) (by omega) (by omega) (by omega))), (q _ _ (by omega) (by omega) (by omega) (by omega)).trans m8, (q _ _ (by omega) (by omega) (by omega) (by omega)).trans m9, rWr_f m10 (q _ _ (by omega) (by omega) (by omega) (by omega)) (fun k => (q _ _ (by omega) (by omega) (by omega) (by omega))), rTx_f m11 (q _ _ (by omega) (by omega) (by omega) (by omega)) (fun k => (q _ _ (by omega) (by omega) (by omega) (by omega))), rSn_f m12 q9, fun k hk => mIm_f (m13 k hk) (fun i => (q _ _ (by omega) (by omega) (by omega) (by omega))) (q _ _ (by omega) (by omega) (by omega) (by omega)) (fun i => (qJ _ _ (by omega)))⟩ (fun x k z => ⟨q x k (by omega) (by omega) (by omega) (by omega), rfl⟩)
theorem Y_years (x : Int32) (w : wf hd so) (h : MR I J P K tl tp f hd nm so c us bm row ask st wr tx sn im) (hF : ∀ I' J', MR I' J' P K tl tp f hd nm (sYears hd so x) (psC (isB x 1 39 && decide (so 0 ≠ 39)) c) (psU (isB x 1 39 && decide (so 0 ≠ 39)) us so) bm row ask st wr tx sn im → mdX I I' J J' → FK (vYears so x) I' J') : ckI G (d + 5) mX12_years [.ref 91, .int x] I J P K n FK := by
  obtain ⟨m1, m2, m3, m4, m5, m6, m7, m8, m9, m10, m11, m12, m13⟩ := h
  have z0 : ∀ x k, ¬ (x = 91 ∧ k = 0) → u2 I 91 0 0 x k = I x k := fun x k z => by simp only [u2]; rw [if_neg z]
  have qJ : ∀ x k, 0 ≤ x → J x k = J x k := fun _ _ _ => rfl
  refine M_years x m1 m4 w m6 (fun I' r1 r2 f => ?_)
  have q : ∀ x k, x ≠ 93 → x ≠ 96 → ¬ (102 ≤ x ∧ x ≤ 107) → ¬ (x = 91 ∧ (k = 27 ∨ k = 0)) → I' x k = I x k := fun x k a1 a2 a3 a4 => (f.1 x k a1 a2 a3 (by omega)).trans (z0 x k (by omega))
  have q9 : ∀ k, 1678 ≤ k → I' 93 k = I 93 k := fun k hk => (f.2 k (Or.inr hk)).trans (z0 _ _ (by omega))
  exact hF _ _ ⟨m1, rT_f m2 (q _ _ (by omega) (by omega) (by omega) (by omega)) (fun k => (q _ _ (by omega) (by omega) (by omega) (by omega))), (q _ _ (by omega) (by omega) (by omega) (by omega)).trans m3, r1, rNm_f m5 (fun k => (qJ _ _ (by omega))), r2, rBl_f m7 (q _ _ (by omega) (by omega) (by omega) (by omega)) (fun k => (q _ _ (by omega) (by omega) (by omega) (by omega))), (q _ _ (by omega) (by omega) (by omega) (by omega)).trans m8, (q _ _ (by omega) (by omega) (by omega) (by omega)).trans m9, rWr_f m10 (q _ _ (by omega) (by omega) (by omega) (by omega)) (fun k => (q _ _ (by omega) (by omega) (by omega) (by omega))), rTx_f m11 (q _ _ (by omega) (by omega) (by omega) (by omega)) (fun k => (q _ _ (by omega) (by omega) (by omega) (by omega))), rSn_f m12 q9, fun k hk => mIm_f (m13 k hk) (fun i => (q _ _ (by omega) (by omega) (by omega) (by omega))) (q _ _ (by omega) (by omega) (by omega) (by omega)) (fun i => (qJ _ _ (by omega)))⟩ (fun x k z => ⟨q x k (by omega) (by omega) (by omega) (by omega), rfl⟩)
theorem Y_drawn {nx' : Int32 → Int32} (hnx : ∀ s : Int32, nx' s = s * 1103515245 + 12345) (x y : Int32) (w : wf hd so) (h : MR I J P K tl tp f hd nm so c us bm row ask st wr tx sn im) (hF : ∀ I' J', MR I' J' P K tl tp f hd nm (sDrawn nx' hd so x y) (psC (isB x 1 39 && decide (so 0 ≠ 39)) c) (psU (isB x 1 39 && decide (so 0 ≠ 39)) us so) bm row ask st wr tx sn im → mdX I I' J J' → FK (vYears so x) I' J') : ckI G (d + 10) mX12_drawn [.ref 91, .int x, .int y] I J P K n FK := by
  obtain ⟨m1, m2, m3, m4, m5, m6, m7, m8, m9, m10, m11, m12, m13⟩ := h
  have z0 : ∀ x k, ¬ (x = 91 ∧ k = 0) → u2 I 91 0 0 x k = I x k := fun x k z => by simp only [u2]; rw [if_neg z]
  have qJ : ∀ x k, 0 ≤ x → J x k = J x k := fun _ _ _ => rfl
  refine M_drawn x y hnx m1 m4 w m6 (fun I' r1 r2 f => ?_)
  have q : ∀ x k, x ≠ 93 → x ≠ 96 → ¬ (102 ≤ x ∧ x ≤ 107) → ¬ (x = 91 ∧ (k = 27 ∨ k = 44 ∨ k = 0)) → I' x k = I x k := fun x k a1 a2 a3 a4 => (f.1 x k a1 a2 a3 (by omega)).trans (z0 x k (by omega))
  have q9 : ∀ k, 1678 ≤ k → I' 93 k = I 93 k := fun k hk => (f.2 k (Or.inr hk)).trans (z0 _ _ (by omega))
  exact hF _ _ ⟨m1, rT_f m2 (q _ _ (by omega) (by omega) (by omega) (by omega)) (fun k => (q _ _ (by omega) (by omega) (by omega) (by omega))), (q _ _ (by omega) (by omega) (by omega) (by omega)).trans m3, r1, rNm_f m5 (fun k => (qJ _ _ (by omega))), r2, rBl_f m7 (q _ _ (by omega) (by omega) (by omega) (by omega)) (fun k => (q _ _ (by omega) (by omega) (by omega) (by omega))), (q _ _ (by omega) (by omega) (by omega) (by omega)).trans m8, (q _ _ (by omega) (by omega) (by omega) (by omega)).trans m9, rWr_f m10 (q _ _ (by omega) (by omega) (by omega) (by omega)) (fun k => (q _ _ (by omega) (by omega) (by omega) (by omega))), rTx_f m11 (q _ _ (by omega) (by omega) (by omega) (by omega)) (fun k => (q _ _ (by omega) (by omega) (by omega) (by omega))), rSn_f m12 q9, fun k hk => mIm_f (m13 k hk) (fun i => (q _ _ (by omega) (by omega) (by omega) (by omega))) (q _ _ (by omega) (by omega) (by omega) (by omega)) (fun i => (qJ _ _ (by omega)))⟩ (fun x k z => ⟨q x k (by omega) (by omega) (by omega) (by omega), rfl⟩)
theorem Y_undo (h : MR I J P K tl tp f hd nm so c us bm row ask st wr tx sn im) (hF : ∀ I' J', MR I' J' P K tl tp f hd nm (if c = 0 then so else us 0) (c - 1) (fun i => us (i + 1)) bm row ask st wr tx sn im → mdX I I' J J' → FK (if c = 0 then -1 else nI (c - 1)) I' J') : ckI G d mX12_undo [.ref 91] I J P K n FK := by
  obtain ⟨m1, m2, m3, m4, m5, m6, m7, m8, m9, m10, m11, m12, m13⟩ := h
  have z0 : ∀ x k, ¬ (x = 91 ∧ k = 0) → u2 I 91 0 0 x k = I x k := fun x k z => by simp only [u2]; rw [if_neg z]
  have qJ : ∀ x k, 0 ≤ x → J x k = J x k := fun _ _ _ => rfl
  refine M_undo m1 m4 m6 (fun I' r1 r2 f => ?_)
  have q : ∀ x k, x ≠ 93 → x ≠ 96 → ¬ (102 ≤ x ∧ x ≤ 107) → ¬ (x = 91 ∧ (k = 27 ∨ k = 0)) → I' x k = I x k := fun x k a1 a2 a3 a4 => (f.1 x k a1 a2 a3 (by omega)).trans (z0 x k (by omega))
  have q9 : ∀ k, 1678 ≤ k → I' 93 k = I 93 k := fun k hk => (f.2 k (Or.inr hk)).trans (z0 _ _ (by omega))
  exact hF _ _ ⟨m1, rT_f m2 (q _ _ (by omega) (by omega) (by omega) (by omega)) (fun k => (q _ _ (by omega) (by omega) (by omega) (by omega))), (q _ _ (by omega) (by omega) (by omega) (by omega)).trans m3, r1, rNm_f m5 (fun k => (qJ _ _ (by omega))), r2, rBl_f m7 (q _ _ (by omega) (by omega) (by omega) (by omega)) (fun k => (q _ _ (by omega) (by omega) (by omega) (by omega))), (q _ _ (by omega) (by omega) (by omega) (by omega)).trans m8, (q _ _ (by omega) (by omega) (by omega) (by omega)).trans m9, rWr_f m10 (q _ _ (by omega) (by omega) (by omega) (by omega)) (fun k => (q _ _ (by omega) (by omega) (by omega) (by omega))), rTx_f m11 (q _ _ (by omega) (by omega) (by omega) (by omega)) (fun k => (q _ _ (by omega) (by omega) (by omega) (by omega))), rSn_f m12 q9, fun k hk => mIm_f (m13 k hk) (fun i => (q _ _ (by omega) (by omega) (by omega) (by omega))) (q _ _ (by omega) (by omega) (by omega) (by omega)) (fun i => (qJ _ _ (by omega)))⟩ (fun x k z => ⟨q x k (by omega) (by omega) (by omega) (by omega), rfl⟩)
theorem Y_blend (x y z : Int32) (w : wf hd so) (h : MR I J P K tl tp f hd nm so c us bm row ask st wr tx sn im) (hF : ∀ I' J', MR I' J' P K tl tp f hd nm so c us (mBlend hd so x y z bm) (wBlend hd so x y z row) ask st wr tx sn im → mdX I I' J J' → FK (vBlend hd so x y z) I' J') : ckI G (d + 7) mX12_blend [.ref 91, .int x, .int y, .int z] I J P K n FK := by
  obtain ⟨m1, m2, m3, m4, m5, m6, m7, m8, m9, m10, m11, m12, m13⟩ := h
  have z0 : ∀ x k, ¬ (x = 91 ∧ k = 0) → u2 I 91 0 0 x k = I x k := fun x k z => by simp only [u2]; rw [if_neg z]
  have qJ : ∀ x k, 0 ≤ x → J x k = J x k := fun _ _ _ => rfl
  refine M_blend x y z m1 m4 w m7 (fun I' r1 f => ?_)
  unfold frL d3 at f
  have q : ∀ x k, ¬ (102 ≤ x ∧ x ≤ 104) → ¬ (108 ≤ x ∧ x ≤ 110) → ¬ (x = 91 ∧ (k = 37 ∨ k = 38 ∨ k = 0)) → I' x k = I x k := fun x k a1 a2 a3 => (f x k (by omega) a2 (by omega)).trans (z0 x k (by omega))
  exact hF _ _ ⟨m1, rT_f m2 (q _ _ (by omega) (by omega) (by omega)) (fun k => (q _ _ (by omega) (by omega) (by omega))), (q _ _ (by omega) (by omega) (by omega)).trans m3, rM_f m4 (fun k hk => (q _ _ (by omega) (by omega) (by omega))), rNm_f m5 (fun k => (qJ _ _ (by omega))), rU_f m6 (q _ _ (by omega) (by omega) (by omega)) (fun k => (q _ _ (by omega) (by omega) (by omega))), r1, (q _ _ (by omega) (by omega) (by omega)).trans m8, (q _ _ (by omega) (by omega) (by omega)).trans m9, rWr_f m10 (q _ _ (by omega) (by omega) (by omega)) (fun k => (q _ _ (by omega) (by omega) (by omega))), rTx_f m11 (q _ _ (by omega) (by omega) (by omega)) (fun k => (q _ _ (by omega) (by omega) (by omega))), rSn_f m12 (fun k hk => (q _ _ (by omega) (by omega) (by omega))), fun k hk => mIm_f (m13 k hk) (fun i => (q _ _ (by omega) (by omega) (by omega))) (q _ _ (by omega) (by omega) (by omega)) (fun i => (qJ _ _ (by omega)))⟩ (fun x k z => ⟨q x k (by omega) (by omega) (by omega), rfl⟩)
theorem Y_ripe (x y : Int32) (w : wf hd so) (h : MR I J P K tl tp f hd nm so c us bm row ask st wr tx sn im) (hF : ∀ I' J', MR I' J' P K tl tp f hd nm so c us bm row ask st wr tx sn im → mdX I I' J J' → FK (vRipe hd so x y) I' J') : ckI G (d + 4) mX12_ripe [.ref 91, .int x, .int y] I J P K n FK := by
  obtain ⟨m1, m2, m3, m4, m5, m6, m7, m8, m9, m10, m11, m12, m13⟩ := h
  have z0 : ∀ x k, ¬ (x = 91 ∧ k = 0) → u2 I 91 0 0 x k = I x k := fun x k z => by simp only [u2]; rw [if_neg z]
  have qJ : ∀ x k, 0 ≤ x → J x k = J x k := fun _ _ _ => rfl
  refine M_ripe x y m1 m4 w (fun I' f => ?_)
  have q : ∀ x k, x ≠ 97 → ¬ (102 ≤ x ∧ x ≤ 107) → ¬ (x = 91 ∧ k = 0) → I' x k = I x k := fun x k a1 a2 a3 => (f x k a1 a2).trans (z0 x k a3)
  exact hF _ _ ⟨m1, rT_f m2 (q _ _ (by omega) (by omega) (by omega)) (fun k => (q _ _ (by omega) (by omega) (by omega))), (q _ _ (by omega) (by omega) (by omega)).trans m3, rM_f m4 (fun k hk => (q _ _ (by omega) (by omega) (by omega))), rNm_f m5 (fun k => (qJ _ _ (by omega))), rU_f m6 (q _ _ (by omega) (by omega) (by omega)) (fun k => (q _ _ (by omega) (by omega) (by omega))), rBl_f m7 (q _ _ (by omega) (by omega) (by omega)) (fun k => (q _ _ (by omega) (by omega) (by omega))), (q _ _ (by omega) (by omega) (by omega)).trans m8, (q _ _ (by omega) (by omega) (by omega)).trans m9, rWr_f m10 (q _ _ (by omega) (by omega) (by omega)) (fun k => (q _ _ (by omega) (by omega) (by omega))), rTx_f m11 (q _ _ (by omega) (by omega) (by omega)) (fun k => (q _ _ (by omega) (by omega) (by omega))), rSn_f m12 (fun k hk => (q _ _ (by omega) (by omega) (by omega))), fun k hk => mIm_f (m13 k hk) (fun i => (q _ _ (by omega) (by omega) (by omega))) (q _ _ (by omega) (by omega) (by omega)) (fun i => (qJ _ _ (by omega)))⟩ (fun x k z => ⟨q x k (by omega) (by omega) (by omega), rfl⟩)
theorem Y_plan (x y : Int32) (w : wf hd so) (h : MR I J P K tl tp f hd nm so c us bm row ask st wr tx sn im) (hF : ∀ I' J', MR I' J' P K tl tp f hd nm so c us bm row ask st wr tx sn im → mdX I I' J J' → FK (vPlan hd so x y) I' J') : ckI G (d + 8) mX12_plan [.ref 91, .int x, .int y] I J P K n FK := by
  obtain ⟨m1, m2, m3, m4, m5, m6, m7, m8, m9, m10, m11, m12, m13⟩ := h
  have z0 : ∀ x k, ¬ (x = 91 ∧ k = 0) → u2 I 91 0 0 x k = I x k := fun x k z => by simp only [u2]; rw [if_neg z]
  have qJ : ∀ x k, 0 ≤ x → J x k = J x k := fun _ _ _ => rfl
  refine M_plan x y m1 m4 w (fun I' f => ?_)
  have q : ∀ x k, x ≠ 97 → ¬ (102 ≤ x ∧ x ≤ 107) → ¬ (x = 91 ∧ k = 0) → I' x k = I x k := fun x k a1 a2 a3 => (f x k a1 a2).trans (z0 x k a3)
  exact hF _ _ ⟨m1, rT_f m2 (q _ _ (by omega) (by omega) (by omega)) (fun k => (q _ _ (by omega) (by omega) (by omega))), (q _ _ (by omega) (by omega) (by omega)).trans m3, rM_f m4 (fun k hk => (q _ _ (by omega) (by omega) (by omega))), rNm_f m5 (fun k => (qJ _ _ (by omega))), rU_f m6 (q _ _ (by omega) (by omega) (by omega)) (fun k => (q _ _ (by omega) (by omega) (by omega))), rBl_f m7 (q _ _ (by omega) (by omega) (by omega)) (fun k => (q _ _ (by omega) (by omega) (by omega))), (q _ _ (by omega) (by omega) (by omega)).trans m8, (q _ _ (by omega) (by omega) (by omega)).trans m9, rWr_f m10 (q _ _ (by omega) (by omega) (by omega)) (fun k => (q _ _ (by omega) (by omega) (by omega))), rTx_f m11 (q _ _ (by omega) (by omega) (by omega)) (fun k => (q _ _ (by omega) (by omega) (by omega))), rSn_f m12 (fun k hk => (q _ _ (by omega) (by omega) (by omega))), fun k hk => mIm_f (m13 k hk) (fun i => (q _ _ (by omega) (by omega) (by omega))) (q _ _ (by omega) (by omega) (by omega)) (fun i => (qJ _ _ (by omega)))⟩ (fun x k z => ⟨q x k (by omega) (by omega) (by omega), rfl⟩)
theorem Y_odds {nx' : Int32 → Int32} (hnx : ∀ s : Int32, nx' s = s * 1103515245 + 12345) (x y z : Int32) (w : wf hd so) (h : MR I J P K tl tp f hd nm so c us bm row ask st wr tx sn im) (hF : ∀ I' J', MR I' J' P K tl tp f hd nm so c us bm row ask st wr tx sn im → mdX I I' J J' → FK (vOdds nx' hd so x y z) I' J') : ckI G (d + 10) mX12_odds [.ref 91, .int x, .int y, .int z] I J P K n FK := by
  obtain ⟨m1, m2, m3, m4, m5, m6, m7, m8, m9, m10, m11, m12, m13⟩ := h
  have z0 : ∀ x k, ¬ (x = 91 ∧ k = 0) → u2 I 91 0 0 x k = I x k := fun x k z => by simp only [u2]; rw [if_neg z]
  have qJ : ∀ x k, 0 ≤ x → J x k = J x k := fun _ _ _ => rfl
  refine M_odds x y z hnx m1 m4 w (fun I' f => ?_)
  have q : ∀ x k, x ≠ 97 → ¬ (102 ≤ x ∧ x ≤ 107) → ¬ (x = 91 ∧ (k = 0 ∨ k = 44)) → I' x k = I x k := fun x k a1 a2 a3 => (f x k a1 a2 (by omega)).trans (z0 x k (by omega))
  exact hF _ _ ⟨m1, rT_f m2 (q _ _ (by omega) (by omega) (by omega)) (fun k => (q _ _ (by omega) (by omega) (by omega))), (q _ _ (by omega) (by omega) (by omega)).trans m3, rM_f m4 (fun k hk => (q _ _ (by omega) (by omega) (by omega))), rNm_f m5 (fun k => (qJ _ _ (by omega))), rU_f m6 (q _ _ (by omega) (by omega) (by omega)) (fun k => (q _ _ (by omega) (by omega) (by omega))), rBl_f m7 (q _ _ (by omega) (by omega) (by omega)) (fun k => (q _ _ (by omega) (by omega) (by omega))), (q _ _ (by omega) (by omega) (by omega)).trans m8, (q _ _ (by omega) (by omega) (by omega)).trans m9, rWr_f m10 (q _ _ (by omega) (by omega) (by omega)) (fun k => (q _ _ (by omega) (by omega) (by omega))), rTx_f m11 (q _ _ (by omega) (by omega) (by omega)) (fun k => (q _ _ (by omega) (by omega) (by omega))), rSn_f m12 (fun k hk => (q _ _ (by omega) (by omega) (by omega))), fun k hk => mIm_f (m13 k hk) (fun i => (q _ _ (by omega) (by omega) (by omega))) (q _ _ (by omega) (by omega) (by omega)) (fun i => (qJ _ _ (by omega)))⟩ (fun x k z => ⟨q x k (by omega) (by omega) (by omega), rfl⟩)
theorem Y_which (w : wf hd so) (h : MR I J P K tl tp f hd nm so c us bm row ask st wr tx sn im) (hF : ∀ I' J', MR I' J' P K 0 tp f hd nm so c us bm row (kWhich hd so tl tp ask) st wr tx sn im → mdX I I' J J' → FK (vWhich hd so tl tp) I' J') : ckI G (d + 3) mX12_which [.ref 91] I J P K n FK := by
  obtain ⟨m1, m2, m3, m4, m5, m6, m7, m8, m9, m10, m11, m12, m13⟩ := h
  have z0 : ∀ x k, ¬ (x = 91 ∧ k = 0) → u2 I 91 0 0 x k = I x k := fun x k z => by simp only [u2]; rw [if_neg z]
  have qJ : ∀ x k, 0 ≤ x → J x k = J x k := fun _ _ _ => rfl
  refine M_which m1 m4 w m2 m8 (fun I' r1 r2 f => ?_)
  unfold frW d3 at f
  have q : ∀ x k, ¬ (102 ≤ x ∧ x ≤ 104) → x ≠ 111 → ¬ (x = 91 ∧ (k = 2 ∨ k = 40 ∨ k = 0)) → I' x k = I x k := fun x k a1 a2 a3 => (f x k (by omega) (by omega) a2).trans (z0 x k (by omega))
  exact hF _ _ ⟨m1, ⟨r2, by omega, fun j hj => by omega⟩, (q _ _ (by omega) (by omega) (by omega)).trans m3, rM_f m4 (fun k hk => (q _ _ (by omega) (by omega) (by omega))), rNm_f m5 (fun k => (qJ _ _ (by omega))), rU_f m6 (q _ _ (by omega) (by omega) (by omega)) (fun k => (q _ _ (by omega) (by omega) (by omega))), rBl_f m7 (q _ _ (by omega) (by omega) (by omega)) (fun k => (q _ _ (by omega) (by omega) (by omega))), r1, (q _ _ (by omega) (by omega) (by omega)).trans m9, rWr_f m10 (q _ _ (by omega) (by omega) (by omega)) (fun k => (q _ _ (by omega) (by omega) (by omega))), rTx_f m11 (q _ _ (by omega) (by omega) (by omega)) (fun k => (q _ _ (by omega) (by omega) (by omega))), rSn_f m12 (fun k hk => (q _ _ (by omega) (by omega) (by omega))), fun k hk => mIm_f (m13 k hk) (fun i => (q _ _ (by omega) (by omega) (by omega))) (q _ _ (by omega) (by omega) (by omega)) (fun i => (qJ _ _ (by omega)))⟩ (fun x k z => ⟨q x k (by omega) (by omega) (by omega), rfl⟩)
theorem Y_store (x y : Int32) (w : wf hd so) (h : MR I J P K tl tp f hd nm so c us bm row ask st wr tx sn im) (hF : ∀ I' J', MR I' J' P K tl tp f hd nm so c us bm row ask (kStore hd so x y st) wr tx sn im → mdX I I' J J' → FK (vStore hd so x y) I' J') : ckI G (d + 3) mX12_store [.ref 91, .int x, .int y] I J P K n FK := by
  obtain ⟨m1, m2, m3, m4, m5, m6, m7, m8, m9, m10, m11, m12, m13⟩ := h
  have z0 : ∀ x k, ¬ (x = 91 ∧ k = 0) → u2 I 91 0 0 x k = I x k := fun x k z => by simp only [u2]; rw [if_neg z]
  have qJ : ∀ x k, 0 ≤ x → J x k = J x k := fun _ _ _ => rfl
  refine M_store x y m1 m4 w m9 (fun I' r1 f => ?_)
  have q : ∀ x k, ¬ (x = 91 ∧ (k = 41 ∨ k = 0)) → I' x k = I x k := fun x k a => (f x k (by omega)).trans (z0 x k (by omega))
  exact hF _ _ ⟨m1, rT_f m2 (q _ _ (by omega)) (fun k => (q _ _ (by omega))), (q _ _ (by omega)).trans m3, rM_f m4 (fun k hk => (q _ _ (by omega))), rNm_f m5 (fun k => (qJ _ _ (by omega))), rU_f m6 (q _ _ (by omega)) (fun k => (q _ _ (by omega))), rBl_f m7 (q _ _ (by omega)) (fun k => (q _ _ (by omega))), (q _ _ (by omega)).trans m8, r1, rWr_f m10 (q _ _ (by omega)) (fun k => (q _ _ (by omega))), rTx_f m11 (q _ _ (by omega)) (fun k => (q _ _ (by omega))), rSn_f m12 (fun k hk => (q _ _ (by omega))), fun k hk => mIm_f (m13 k hk) (fun i => (q _ _ (by omega))) (q _ _ (by omega)) (fun i => (qJ _ _ (by omega)))⟩ (fun x k z => ⟨q x k (by omega), rfl⟩)
theorem Y_feed (v w x y z : Int32) (h : MR I J P K tl tp f hd nm so c us bm row ask st wr tx sn im) (hF : ∀ I' J', MR I' J' P K (if tl ≤ 920 then tl + 20 else tl) (if tl ≤ 920 then fdT tp tl v w x y z else tp) f hd nm so c us bm row ask st wr tx sn im → mdX I I' J J' → FK (if tl ≤ 920 then nI (tl + 20) else -1) I' J') : ckI G (d + 1) mX12_feed [.ref 91, .int v, .int w, .int x, .int y, .int z] I J P K n FK := by
  obtain ⟨m1, m2, m3, m4, m5, m6, m7, m8, m9, m10, m11, m12, m13⟩ := h
  have z0 : ∀ x k, ¬ (x = 91 ∧ k = 0) → u2 I 91 0 0 x k = I x k := fun x k z => by simp only [u2]; rw [if_neg z]
  have qJ : ∀ x k, 0 ≤ x → J x k = J x k := fun _ _ _ => rfl
  refine M_feed v w x y z m1 m2 (fun I' r1 f => ?_)
  have q : ∀ x k, x ≠ 92 → ¬ (x = 91 ∧ (k = 2 ∨ k = 0)) → I' x k = I x k := fun x k a1 a2 => (f x k a1 (by omega)).trans (z0 x k (by omega))
  exact hF _ _ ⟨m1, r1, (q _ _ (by omega) (by omega)).trans m3, rM_f m4 (fun k hk => (q _ _ (by omega) (by omega))), rNm_f m5 (fun k => (qJ _ _ (by omega))), rU_f m6 (q _ _ (by omega) (by omega)) (fun k => (q _ _ (by omega) (by omega))), rBl_f m7 (q _ _ (by omega) (by omega)) (fun k => (q _ _ (by omega) (by omega))), (q _ _ (by omega) (by omega)).trans m8, (q _ _ (by omega) (by omega)).trans m9, rWr_f m10 (q _ _ (by omega) (by omega)) (fun k => (q _ _ (by omega) (by omega))), rTx_f m11 (q _ _ (by omega) (by omega)) (fun k => (q _ _ (by omega) (by omega))), rSn_f m12 (fun k hk => (q _ _ (by omega) (by omega))), fun k hk => mIm_f (m13 k hk) (fun i => (q _ _ (by omega) (by omega))) (q _ _ (by omega) (by omega)) (fun i => (qJ _ _ (by omega)))⟩ (fun x k z => ⟨q x k (by omega) (by omega), rfl⟩)
theorem Y_end (x : Int32) (h : MR I J P K tl tp f hd nm so c us bm row ask st wr tx sn im) (hF : ∀ I' J', MR I' J' P K (if inB x (tl + 1) then cl x else tl) tp f hd nm so c us bm row ask st wr tx sn im → mdX I I' J J' → FK (b01 (inB x (tl + 1))) I' J') : ckI G d mX12_end [.ref 91, .int x] I J P K n FK := by
  obtain ⟨m1, m2, m3, m4, m5, m6, m7, m8, m9, m10, m11, m12, m13⟩ := h
  have z0 : ∀ x k, ¬ (x = 91 ∧ k = 0) → u2 I 91 0 0 x k = I x k := fun x k z => by simp only [u2]; rw [if_neg z]
  have qJ : ∀ x k, 0 ≤ x → J x k = J x k := fun _ _ _ => rfl
  refine M_end x m1 m2 (fun I' r1 f => ?_)
  have q : ∀ x k, x ≠ 92 → ¬ (x = 91 ∧ (k = 2 ∨ k = 0)) → I' x k = I x k := fun x k a1 a2 => (f x k a1 (by omega)).trans (z0 x k (by omega))
  exact hF _ _ ⟨m1, r1, (q _ _ (by omega) (by omega)).trans m3, rM_f m4 (fun k hk => (q _ _ (by omega) (by omega))), rNm_f m5 (fun k => (qJ _ _ (by omega))), rU_f m6 (q _ _ (by omega) (by omega)) (fun k => (q _ _ (by omega) (by omega))), rBl_f m7 (q _ _ (by omega) (by omega)) (fun k => (q _ _ (by omega) (by omega))), (q _ _ (by omega) (by omega)).trans m8, (q _ _ (by omega) (by omega)).trans m9, rWr_f m10 (q _ _ (by omega) (by omega)) (fun k => (q _ _ (by omega) (by omega))), rTx_f m11 (q _ _ (by omega) (by omega)) (fun k => (q _ _ (by omega) (by omega))), rSn_f m12 (fun k hk => (q _ _ (by omega) (by omega))), fun k hk => mIm_f (m13 k hk) (fun i => (q _ _ (by omega) (by omega))) (q _ _ (by omega) (by omega)) (fun i => (qJ _ _ (by omega)))⟩ (fun x k z => ⟨q x k (by omega) (by omega), rfl⟩)
theorem Y_tag (x : Int32) (w : wf hd so) (h : MR I J P K tl tp f hd nm so c us bm row ask st wr tx sn im) (hF : ∀ I' J', MR I' J' P K tl tp f hd nm so c us bm row ask st wr (if inB x (hd 1) then tgL nm hd so (cl x) else tx) sn im → mdX I I' J J' → FK (if inB x (hd 1) then nI (tgL nm hd so (cl x)).length else -1) I' J') : ckI G (d + 9) mX12_tag [.ref 91, .int x] I J P K n FK := by
  obtain ⟨m1, m2, m3, m4, m5, m6, m7, m8, m9, m10, m11, m12, m13⟩ := h
  have z0 : ∀ x k, ¬ (x = 91 ∧ k = 0) → u2 I 91 0 0 x k = I x k := fun x k z => by simp only [u2]; rw [if_neg z]
  have qJ : ∀ x k, 0 ≤ x → J x k = J x k := fun _ _ _ => rfl
  refine M_tag x m1 m4 w m5 m11 (fun I' r1 f => ?_)
  have q : ∀ x k, x ≠ 112 → ¬ (x = 91 ∧ (k = 43 ∨ k = 0)) → I' x k = I x k := fun x k a1 a2 => (f x k a1 (by omega)).trans (z0 x k (by omega))
  exact hF _ _ ⟨m1, rT_f m2 (q _ _ (by omega) (by omega)) (fun k => (q _ _ (by omega) (by omega))), (q _ _ (by omega) (by omega)).trans m3, rM_f m4 (fun k hk => (q _ _ (by omega) (by omega))), rNm_f m5 (fun k => (qJ _ _ (by omega))), rU_f m6 (q _ _ (by omega) (by omega)) (fun k => (q _ _ (by omega) (by omega))), rBl_f m7 (q _ _ (by omega) (by omega)) (fun k => (q _ _ (by omega) (by omega))), (q _ _ (by omega) (by omega)).trans m8, (q _ _ (by omega) (by omega)).trans m9, rWr_f m10 (q _ _ (by omega) (by omega)) (fun k => (q _ _ (by omega) (by omega))), r1, rSn_f m12 (fun k hk => (q _ _ (by omega) (by omega))), fun k hk => mIm_f (m13 k hk) (fun i => (q _ _ (by omega) (by omega))) (q _ _ (by omega) (by omega)) (fun i => (qJ _ _ (by omega)))⟩ (fun x k z => ⟨q x k (by omega) (by omega), rfl⟩)
def yhPost (I : sI) (J : sJ) (P : sP) (K : sK) (tp : Nat → Nat) (hd : Nat → Nat) (nm : Nat → List Nat) (so : Nat → Nat) (c : Nat) (us : Nat → Nat → Nat) (bm : Nat) (row : Nat → Nat) (ask st : Int32) (wr : Option (Nat → Int32)) (tx : List Nat) (sn : Option (List itT)) (im : Nat → Option imT) (FK : Int32 → sI → sJ → Prop) (r : pE (hS × Nat)) : Prop := match r with
  | .error e => ∀ I' J', MR I' J' P K 0 tp (nI e.1) hd nm so c us bm row ask st wr tx sn im → mdX I I' J J' → FK ((-1) - nI e.2) I' J'
  | .ok p => ∀ I' J', MR I' J' P K 0 tp 0 p.1.1 p.1.2.1 (stS p.1.1) 0 us bm row ask st wr tx none im → mdX I I' J J' → FK (nI p.2) I' J'
theorem Y_house (h : MR I J P K tl tp f hd nm so c us bm row ask st wr tx sn im) (hF : yhPost I J P K tp hd nm so c us bm row ask st wr tx sn im FK (pHouse tp tl)) : ckI G (d + 5) mX12_house [.ref 91] I J P K n FK := by
  obtain ⟨m1, m2, m3, m4, m5, m6, m7, m8, m9, m10, m11, m12, m13⟩ := h
  refine M_house m1 m2 ?_
  cases e : pHouse tp tl with
  | error p =>
    rw [e] at hF
    intro I' J' r0 r2 r3 f fJ
    have q : ∀ x k, x ≠ 94 → ¬ (x = 91 ∧ (k = 0 ∨ (2 ≤ k ∧ k ≤ 11) ∨ k = 13 ∨ (23 ≤ k ∧ k ≤ 26))) → I' x k = I x k := f
    have qJ : ∀ x k, x ≠ 99 → x ≠ 91 → J' x k = J x k := fun x k a1 a2 => fJ x k a1 (by omega)
    exact hF _ _ ⟨m1, ⟨r2, by omega, fun j hj => by omega⟩, r3, rM_f m4 (fun k hk => (q _ _ (by omega) (by omega))), rNm_f m5 (fun k => (qJ _ _ (by omega) (by omega))), rU_f m6 (q _ _ (by omega) (by omega)) (fun k => (q _ _ (by omega) (by omega))), rBl_f m7 (q _ _ (by omega) (by omega)) (fun k => (q _ _ (by omega) (by omega))), (q _ _ (by omega) (by omega)).trans m8, (q _ _ (by omega) (by omega)).trans m9, rWr_f m10 (q _ _ (by omega) (by omega)) (fun k => (q _ _ (by omega) (by omega))), rTx_f m11 (q _ _ (by omega) (by omega)) (fun k => (q _ _ (by omega) (by omega))), rSn_f m12 (fun k hk => (q _ _ (by omega) (by omega))), fun k hk => mIm_f (m13 k hk) (fun i => (q _ _ (by omega) (by omega))) (q _ _ (by omega) (by omega)) (fun i => (qJ _ _ (by omega) (by omega)))⟩ (fun x k z => ⟨q x k (by omega) (by omega), qJ x k (by omega) (by omega)⟩)
  | ok p =>
    rw [e] at hF
    intro I' J' wH r1 rz r27 r0 r2 r3 rN f fJ
    have q : ∀ x k, x ≠ 94 → x ≠ 93 → ¬ (x = 91 ∧ (k = 0 ∨ (2 ≤ k ∧ k ≤ 11) ∨ k = 13 ∨ (23 ≤ k ∧ k ≤ 27))) → I' x k = I x k := f
    have qJ : ∀ x k, x ≠ 99 → x ≠ 98 → x ≠ 91 → J' x k = J x k := fun x k a1 a2 a3 => fJ x k a1 a2 (by omega)
    exact hF _ _ ⟨m1, ⟨r2, by omega, fun j hj => by omega⟩, r3, r1, rN, ⟨r27, by omega, fun i j hi _ => by omega⟩, rBl_f m7 (q _ _ (by omega) (by omega) (by omega)) (fun k => (q _ _ (by omega) (by omega) (by omega))), (q _ _ (by omega) (by omega) (by omega)).trans m8, (q _ _ (by omega) (by omega) (by omega)).trans m9, rWr_f m10 (q _ _ (by omega) (by omega) (by omega)) (fun k => (q _ _ (by omega) (by omega) (by omega))), rTx_f m11 (q _ _ (by omega) (by omega) (by omega)) (fun k => (q _ _ (by omega) (by omega) (by omega))), rz 1678 (by omega) (by omega), fun k hk => mIm_f (m13 k hk) (fun i => (q _ _ (by omega) (by omega) (by omega))) (q _ _ (by omega) (by omega) (by omega)) (fun i => (qJ _ _ (by omega) (by omega) (by omega)))⟩ (fun x k z => ⟨q x k (by omega) (by omega) (by omega), qJ x k (by omega) (by omega) (by omega)⟩)
def ysPost (I : sI) (J : sJ) (P : sP) (K : sK) (tp : Nat → Nat) (hd : Nat → Nat) (nm : Nat → List Nat) (so : Nat → Nat) (c : Nat) (us : Nat → Nat → Nat) (bm : Nat) (row : Nat → Nat) (ask st : Int32) (wr : Option (Nat → Int32)) (tx : List Nat) (sn : Option (List itT)) (im : Nat → Option imT) (FK : Int32 → sI → sJ → Prop) (r : pE sgT) : Prop := match r with
  | .error e => ∀ I' J', MR I' J' P K 0 tp (nI e.1) hd nm so c us bm row ask st wr tx sn im → mdX I I' J J' → FK ((-1) - nI e.2) I' J'
  | .ok p => ∀ I' J', MR I' J' P K 0 tp 0 hd nm so c us bm row ask st wr tx (some p.1) im → mdX I I' J J' → FK (nI p.2) I' J'
theorem Y_sentence (w : wf hd so) (h : MR I J P K tl tp f hd nm so c us bm row ask st wr tx sn im) (hF : ysPost I J P K tp hd nm so c us bm row ask st wr tx sn im FK (pSen hd nm tp tl)) : ckI G (d + 41) mX12_sentence [.ref 91] I J P K n FK := by
  obtain ⟨m1, m2, m3, m4, m5, m6, m7, m8, m9, m10, m11, m12, m13⟩ := h
  refine M_sentence m1 m4 w m5 m2 ?_
  cases e : pSen hd nm tp tl with
  | error p =>
    rw [e] at hF
    intro I' J' r0 r2 r3 f fJ
    have q : ∀ x k, x ≠ 115 → ¬ (x = 91 ∧ (k = 0 ∨ (2 ≤ k ∧ k ≤ 11) ∨ k = 13 ∨ (50 ≤ k ∧ k ≤ 53))) → I' x k = I x k := f
    have qJ : ∀ x k, x ≠ 91 → J' x k = J x k := fun x k a1 => fJ x k (by omega)
    exact hF _ _ ⟨m1, ⟨r2, by omega, fun j hj => by omega⟩, r3, rM_f m4 (fun k hk => (q _ _ (by omega) (by omega))), rNm_f m5 (fun k => (qJ _ _ (by omega))), rU_f m6 (q _ _ (by omega) (by omega)) (fun k => (q _ _ (by omega) (by omega))), rBl_f m7 (q _ _ (by omega) (by omega)) (fun k => (q _ _ (by omega) (by omega))), (q _ _ (by omega) (by omega)).trans m8, (q _ _ (by omega) (by omega)).trans m9, rWr_f m10 (q _ _ (by omega) (by omega)) (fun k => (q _ _ (by omega) (by omega))), rTx_f m11 (q _ _ (by omega) (by omega)) (fun k => (q _ _ (by omega) (by omega))), rSn_f m12 (fun k hk => (q _ _ (by omega) (by omega))), fun k hk => mIm_f (m13 k hk) (fun i => (q _ _ (by omega) (by omega))) (q _ _ (by omega) (by omega)) (fun i => (qJ _ _ (by omega)))⟩ (fun x k z => ⟨q x k (by omega) (by omega), qJ x k (by omega)⟩)
  | ok p =>
    rw [e] at hF
    intro I' J' rS r0 r2 r3 f fJ
    have q : ∀ x k, x ≠ 115 → ¬ (x = 93 ∧ 1678 ≤ k) → ¬ (x = 91 ∧ (k = 0 ∨ (2 ≤ k ∧ k ≤ 11) ∨ k = 13 ∨ (50 ≤ k ∧ k ≤ 53))) → I' x k = I x k := f
    have qJ : ∀ x k, x ≠ 91 → J' x k = J x k := fun x k a1 => fJ x k (by omega)
    exact hF _ _ ⟨m1, ⟨r2, by omega, fun j hj => by omega⟩, r3, rM_f m4 (fun k hk => (q _ _ (by omega) (by omega) (by omega))), rNm_f m5 (fun k => (qJ _ _ (by omega))), rU_f m6 (q _ _ (by omega) (by omega) (by omega)) (fun k => (q _ _ (by omega) (by omega) (by omega))), rBl_f m7 (q _ _ (by omega) (by omega) (by omega)) (fun k => (q _ _ (by omega) (by omega) (by omega))), (q _ _ (by omega) (by omega) (by omega)).trans m8, (q _ _ (by omega) (by omega) (by omega)).trans m9, rWr_f m10 (q _ _ (by omega) (by omega) (by omega)) (fun k => (q _ _ (by omega) (by omega) (by omega))), rTx_f m11 (q _ _ (by omega) (by omega) (by omega)) (fun k => (q _ _ (by omega) (by omega) (by omega))), rS, fun k hk => mIm_f (m13 k hk) (fun i => (q _ _ (by omega) (by omega) (by omega))) (q _ _ (by omega) (by omega) (by omega)) (fun i => (qJ _ _ (by omega)))⟩ (fun x k z => ⟨q x k (by omega) (by omega) (by omega), qJ x k (by omega)⟩)
def ybPost (I : sI) (J : sJ) (P : sP) (K : sK) (tp : Nat → Nat) (hd : Nat → Nat) (nm : Nat → List Nat) (so : Nat → Nat) (c : Nat) (us : Nat → Nat → Nat) (bm : Nat) (row : Nat → Nat) (ask st : Int32) (wr : Option (Nat → Int32)) (tx : List Nat) (sn : Option (List itT)) (im : Nat → Option imT) (lv : Nat) (FK : Int32 → sI → sJ → Prop) (r : pE (Nat × (Nat → bL))) : Prop := match r with
  | .error e => ∀ I' J', MR I' J' P K 0 tp (nI e.1) hd nm so c us bm row ask st wr tx sn im → mdX I I' J J' → FK ((-2) - nI e.2) I' J'
  | .ok p => ∀ I' J', MR I' J' P K 0 tp 0 hd nm (if gB1 lv (lvB hd p.2 p.1 0 so) then (lvB hd p.2 p.1 0 so).2.2 else so) (psC (gB1 lv (lvB hd p.2 p.1 0 so)) c) (psU (gB1 lv (lvB hd p.2 p.1 0 so)) us so) bm row ask st (some (wrB hd (lvB hd p.2 p.1 0 so))) tx sn im → mdX I I' J J' → FK (if (lvB hd p.2 p.1 0 so).1 = 0 then -1 else nI (lvB hd p.2 p.1 0 so).2.1) I' J'
theorem Y_book (x : Int32) (w : wf hd so) (h : MR I J P K tl tp f hd nm so c us bm row ask st wr tx sn im) (hF0 : inB x 2 = false → FK (-1000) (u2 I 91 0 0) J) (hF : ∀ lv, lv < 2 → x = nI lv → ybPost I J P K tp hd nm so c us bm row ask st wr tx sn im lv FK (pBook hd nm tp tl)) : ckI G (d + 8) mX12_book [.ref 91, .int x] I J P K n FK := by
  obtain ⟨m1, m2, m3, m4, m5, m6, m7, m8, m9, m10, m11, m12, m13⟩ := h
  refine M_book x m1 m4 w m5 m2 m6 hF0 (fun lv hlv ex => ?_)
  have hF := hF lv hlv ex
  cases e : pBook hd nm tp tl with
  | error p =>
    rw [e] at hF
    intro I' J' r0 r2 r3 f fJ
    have q : ∀ x k, x ≠ 113 → ¬ (x = 91 ∧ (k = 0 ∨ (2 ≤ k ∧ k ≤ 11) ∨ k = 13 ∨ k = 47)) → I' x k = I x k := f
    have qJ : ∀ x k, x ≠ 91 → J' x k = J x k := fun x k a1 => fJ x k (by omega)
    exact hF _ _ ⟨m1, ⟨r2, by omega, fun j hj => by omega⟩, r3, rM_f m4 (fun k hk => (q _ _ (by omega) (by omega))), rNm_f m5 (fun k => (qJ _ _ (by omega))), rU_f m6 (q _ _ (by omega) (by omega)) (fun k => (q _ _ (by omega) (by omega))), rBl_f m7 (q _ _ (by omega) (by omega)) (fun k => (q _ _ (by omega) (by omega))), (q _ _ (by omega) (by omega)).trans m8, (q _ _ (by omega) (by omega)).trans m9, rWr_f m10 (q _ _ (by omega) (by omega)) (fun k => (q _ _ (by omega) (by omega))), rTx_f m11 (q _ _ (by omega) (by omega)) (fun k => (q _ _ (by omega) (by omega))), rSn_f m12 (fun k hk => (q _ _ (by omega) (by omega))), fun k hk => mIm_f (m13 k hk) (fun i => (q _ _ (by omega) (by omega))) (q _ _ (by omega) (by omega)) (fun i => (qJ _ _ (by omega)))⟩ (fun x k z => ⟨q x k (by omega) (by omega), qJ x k (by omega)⟩)
  | ok p =>
    rw [e] at hF
    intro I' J' rM' rU' rW r0 r2 r3 f f9 fJ
    have q : ∀ x k, x ≠ 93 → x ≠ 96 → x ≠ 97 → x ≠ 113 → x ≠ 114 → ¬ (102 ≤ x ∧ x ≤ 107) → ¬ (x = 91 ∧ (k = 0 ∨ (2 ≤ k ∧ k ≤ 11) ∨ k = 13 ∨ k = 27 ∨ k = 47 ∨ k = 48)) → I' x k = I x k := f
    have qJ : ∀ x k, x ≠ 91 → J' x k = J x k := fun x k a1 => fJ x k (by omega)
    exact hF _ _ ⟨m1, ⟨r2, by omega, fun j hj => by omega⟩, r3, rM', rNm_f m5 (fun k => (qJ _ _ (by omega))), rU', rBl_f m7 (q _ _ (by omega) (by omega) (by omega) (by omega) (by omega) (by omega) (by omega)) (fun k => (q _ _ (by omega) (by omega) (by omega) (by omega) (by omega) (by omega) (by omega))), (q _ _ (by omega) (by omega) (by omega) (by omega) (by omega) (by omega) (by omega)).trans m8, (q _ _ (by omega) (by omega) (by omega) (by omega) (by omega) (by omega) (by omega)).trans m9, rW, rTx_f m11 (q _ _ (by omega) (by omega) (by omega) (by omega) (by omega) (by omega) (by omega)) (fun k => (q _ _ (by omega) (by omega) (by omega) (by omega) (by omega) (by omega) (by omega))), rSn_f m12 (fun k hk => f9 k (Or.inr hk)), fun k hk => mIm_f (m13 k hk) (fun i => (q _ _ (by omega) (by omega) (by omega) (by omega) (by omega) (by omega) (by omega))) (q _ _ (by omega) (by omega) (by omega) (by omega) (by omega) (by omega) (by omega)) (fun i => (qJ _ _ (by omega)))⟩ (fun x k z => ⟨q x k (by omega) (by omega) (by omega) (by omega) (by omega) (by omega) (by omega), qJ x k (by omega)⟩)
theorem Y_image (x : Int32) (w : wf hd so) (wi : ∀ j p, j < 2 → im j = some p → p.1.1 0 ≤ 5) (h : MR I J P K tl tp f hd nm so c us bm row ask st wr tx sn im) (hF0 : inB x 2 = false → FK 0 (u2 I 91 0 0) J) (hF : ∀ k, k < 2 → x = nI k → ∀ I' J', MR I' J' P K tl tp f hd nm so c us bm row ask st wr tx sn (imU im k ((hd, nm, so), sn)) → mdX I I' J J' → FK 1 I' J') : ckI G (d + 1) mX12_image [.ref 91, .int x] I J P K n FK := by
  obtain ⟨m1, m2, m3, m4, m5, m6, m7, m8, m9, m10, m11, m12, m13⟩ := h
  have z0 : ∀ x k, ¬ (x = 91 ∧ k = 0) → u2 I 91 0 0 x k = I x k := fun x k z => by simp only [u2]; rw [if_neg z]
  refine M_image x m1 hF0 (fun k hk ex I' J' r1 r2 r3 f fJ => ?_)
  have q : ∀ x i, x ≠ 95 → x ≠ 101 → ¬ (x = 91 ∧ i = 0) → I' x i = I x i := fun x i a1 a2 a3 => (f x i (by omega) (by omega)).trans (z0 x i a3)
  have qJ : ∀ x i, x ≠ 100 → J' x i = J x i := fun x i a1 => fJ x i (by omega)
  refine hF k hk ex _ _ ⟨m1, rT_f m2 (q _ _ (by omega) (by omega) (by omega)) (fun k => (q _ _ (by omega) (by omega) (by omega))), (q _ _ (by omega) (by omega) (by omega)).trans m3, rM_f m4 (fun k hk => (q _ _ (by omega) (by omega) (by omega))), rNm_f m5 (fun k => (qJ _ _ (by omega))), rU_f m6 (q _ _ (by omega) (by omega) (by omega)) (fun k => (q _ _ (by omega) (by omega) (by omega))), rBl_f m7 (q _ _ (by omega) (by omega) (by omega)) (fun k => (q _ _ (by omega) (by omega) (by omega))), (q _ _ (by omega) (by omega) (by omega)).trans m8, (q _ _ (by omega) (by omega) (by omega)).trans m9, rWr_f m10 (q _ _ (by omega) (by omega) (by omega)) (fun k => (q _ _ (by omega) (by omega) (by omega))), rTx_f m11 (q _ _ (by omega) (by omega) (by omega)) (fun k => (q _ _ (by omega) (by omega) (by omega))), rSn_f m12 (fun k hk => (q _ _ (by omega) (by omega) (by omega))), fun j hj => ?_⟩ (fun x k z => ⟨q x k (by omega) (by omega) (by omega), qJ x k (by omega)⟩)
  unfold imU
  by_cases e : j = k
  · subst e
    rw [if_pos rfl]
    refine ⟨r3, ?_, fun s hs => ?_, ?_⟩
    · exact ⟨fun i hi => (r1 i (by omega)).trans (m4.1 i hi), fun i hi => (r1 _ (by omega)).trans (m4.2 i hi)⟩
    · have hs : s < hd 0 := hs
      exact ⟨(r2 s (by have := w.1; omega)).trans (m5 s hs).1, (m5 s hs).2⟩
    · cases sn with
      | none => exact (r1 _ (by omega)).trans m12
      | some L =>
        obtain ⟨h1, nd, top, h2, h3, h4, h5, h6⟩ := m12
        exact ⟨(r1 _ (by omega)).trans h1, nd, top, (r1 _ (by omega)).trans h2, h3, h4, fun i hi => ⟨(r1 _ (by omega)).trans (h5 i hi).1, (r1 _ (by omega)).trans (h5 i hi).2.1, (r1 _ (by omega)).trans (h5 i hi).2.2.1, (r1 _ (by omega)).trans (h5 i hi).2.2.2⟩, h6⟩
  · rw [if_neg e]
    have hm := m13 j hj
    have g95 : ∀ i, i < 1920 → I' 95 (1920 * j + i) = I 95 (1920 * j + i) := fun i hi => (f 95 _ (by omega) (by omega)).trans (z0 _ _ (by omega))
    have g101 : I' 101 j = I 101 j := (f 101 j (by omega) (by omega)).trans (z0 _ _ (by omega))
    have g100 : ∀ i, i < 5 → J' 100 (5 * j + i) = J 100 (5 * j + i) := fun i hi => fJ 100 _ (by omega)
    cases ej : im j with
    | none => rw [ej] at hm; exact g101.trans hm
    | some p =>
      rw [ej] at hm
      obtain ⟨h1, h2, h3, h4⟩ := hm
      refine ⟨g101.trans h1, ⟨fun i hi => (g95 i (by omega)).trans (h2.1 i hi), fun i hi => (g95 _ (by omega)).trans (h2.2 i hi)⟩, fun s hs => ⟨(g100 s (by have := wi j p hj ej; omega)).trans (h3 s hs).1, (h3 s hs).2⟩, ?_⟩
      cases es : p.2 with
      | none => rw [es] at h4; exact (g95 _ (by omega)).trans h4
      | some L =>
        rw [es] at h4
        obtain ⟨h1, nd, top, h2, h3, h4, h5, h6⟩ := h4
        exact ⟨(g95 _ (by omega)).trans h1, nd, top, (g95 _ (by omega)).trans h2, h3, h4, fun i hi => ⟨(g95 _ (by omega)).trans (h5 i hi).1, (g95 _ (by omega)).trans (h5 i hi).2.1, (g95 _ (by omega)).trans (h5 i hi).2.2.1, (g95 _ (by omega)).trans (h5 i hi).2.2.2⟩, h6⟩
theorem Y_restore (x : Int32) (wi : ∀ j p, j < 2 → im j = some p → p.1.1 0 ≤ 5) (h : MR I J P K tl tp f hd nm so c us bm row ask st wr tx sn im) (hF0 : (inB x 2 = false ∨ ∃ k, k < 2 ∧ x = nI k ∧ im k = none) → FK 0 (u2 I 91 0 0) J) (hF : ∀ k q, k < 2 → x = nI k → im k = some q → ∀ I' J', MR I' J' P K tl tp f q.1.1 q.1.2.1 q.1.2.2 0 us bm row ask st wr tx q.2 im → mdX I I' J J' → FK 1 I' J') : ckI G (d + 1) mX12_restore [.ref 91, .int x] I J P K n FK := by
  obtain ⟨m1, m2, m3, m4, m5, m6, m7, m8, m9, m10, m11, m12, m13⟩ := h
  have z0 : ∀ x k, ¬ (x = 91 ∧ k = 0) → u2 I 91 0 0 x k = I x k := fun x k z => by simp only [u2]; rw [if_neg z]
  refine M_restore x m1 (fun e => ?_) (fun k hk ex ne I' J' r1 r2 r27 f fJ => ?_)
  · rcases e with e | ⟨k, hk, ex, e⟩
    · exact hF0 (Or.inl e)
    · refine hF0 (Or.inr ⟨k, hk, ex, ?_⟩)
      have hm := m13 k hk
      cases ek : im k with
      | none => rfl
      | some p =>
        rw [ek] at hm
        rw [hm.1] at e
        exact absurd e (by decide)
  · have hm := m13 k hk
    cases ek : im k with
    | none =>
      rw [ek] at hm
      exact absurd hm ne
    | some p =>
      rw [ek] at hm
      obtain ⟨h1, h2, h3, h4⟩ := hm
      have q : ∀ x i, x ≠ 93 → ¬ (x = 91 ∧ (i = 27 ∨ i = 0)) → I' x i = I x i := fun x i a1 a2 => (f x i (by omega) (by omega)).trans (z0 x i (by omega))
      have qJ : ∀ x i, x ≠ 98 → J' x i = J x i := fun x i a1 => fJ x i (by omega)
      refine hF k p hk ex ek _ _ ⟨m1, rT_f m2 (q _ _ (by omega) (by omega)) (fun k => (q _ _ (by omega) (by omega))), (q _ _ (by omega) (by omega)).trans m3, ⟨fun i hi => (r1 i (by omega)).trans (h2.1 i hi), fun i hi => (r1 _ (by omega)).trans (h2.2 i hi)⟩, fun s hs => ⟨(r2 s (by have := wi k p hk ek; omega)).trans (h3 s hs).1, (h3 s hs).2⟩, ⟨r27, by omega, fun i j hi _ => by omega⟩, rBl_f m7 (q _ _ (by omega) (by omega)) (fun k => (q _ _ (by omega) (by omega))), (q _ _ (by omega) (by omega)).trans m8, (q _ _ (by omega) (by omega)).trans m9, rWr_f m10 (q _ _ (by omega) (by omega)) (fun k => (q _ _ (by omega) (by omega))), rTx_f m11 (q _ _ (by omega) (by omega)) (fun k => (q _ _ (by omega) (by omega))), ?_, fun k hk => mIm_f (m13 k hk) (fun i => (q _ _ (by omega) (by omega))) (q _ _ (by omega) (by omega)) (fun i => (qJ _ _ (by omega)))⟩ (fun x k z => ⟨q x k (by omega) (by omega), qJ x k (by omega)⟩)
      cases es : p.2 with
      | none => rw [es] at h4; exact (r1 _ (by omega)).trans h4
      | some L =>
        rw [es] at h4
        obtain ⟨h1, nd, top, h2, h3, h4, h5, h6⟩ := h4
        exact ⟨(r1 _ (by omega)).trans h1, nd, top, (r1 _ (by omega)).trans h2, h3, h4, fun i hi => ⟨(r1 _ (by omega)).trans (h5 i hi).1, (r1 _ (by omega)).trans (h5 i hi).2.1, (r1 _ (by omega)).trans (h5 i hi).2.2.1, (r1 _ (by omega)).trans (h5 i hi).2.2.2⟩, h6⟩
end MdX
