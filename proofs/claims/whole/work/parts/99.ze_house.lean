/-! the class: undo, house, sentence, image, restore, book -/
section HouX
variable {G : gG} {d : Nat} {I I' I1 I2 : sI} {J J' : sJ} {P P' P1 P2 : sP} {K K' : sK} {n n' : Nat} {cs cs' : Nat → Option Nat} {a b nx : Nat} {F : Int32 → sI → sJ → sP → sK → Nat → Prop} {FK : Int32 → sI → sJ → Prop}
variable {tl : Nat} {tp : Nat → Nat} {f : Int32} {hd so : Nat → Nat} {nm : Nat → List Nat} {c : Nat} {us : Nat → Nat → Nat} {bm : Nat} {row : Nat → Nat} {ask st : Int32} {wr : Option (Nat → Int32)} {tx : List Nat} {sn : Option (List itT)} {im : Nat → Option imT}
def sgS (j i : Nat) : Nat := if i = 0 then j else if i = j then 0 else i
theorem sgS_lt {j i : Nat} (h : j < 12) (hi : i < 12) : sgS j i < 12 := by unfold sgS; split; omega; split; omega; omega
theorem sgS_inj {j i k : Nat} (hk : k ≠ i) : sgS j k ≠ sgS j i := by
  unfold sgS
  (repeat' split) <;> omega
/-- an act is undone -/
theorem XHu {b1 lt : Nat} (hlt : lt = (nx + 7) % 8) (g : geC P K n cs) (hnx : nx < 8) (hc : c ≤ 8) (h0 : c ≠ 0) (A : ∀ i, i < c → cR I J P K n cs (cs (2 + (nx + 7 - i) % 8)) hd nm (us i)) (S : syC I P K n cs (P 0 10) sn) (M : ∀ k, k < 2 → imC I J P K n cs k (im k)) (e1 : ∃ b, cs 1 = some b) (j12 : I' 0 12 = nI (lt)) (j13 : I' 0 13 = nI (c - 1)) (jI : ∀ x k, 34 < x → I' x k = I x k) (lk : lkC P cs) (e2 : cs (2 + lt) = some b1) (p8 : P' 0 8 = some b1) (p29 : P' 29 (lt) = cs 0) (p29' : ∀ i, i < 8 → i ≠ lt → P' 29 i = cs (2 + i)) (pr : ∀ x k, ¬ (x = 0 ∧ k = 8) → x ≠ 29 → P' x k = P x k) : XHc (fun i => cs (sgS (2 + lt) i)) (lt) I' J P' K n hd nm (us 0) (c - 1) (fun i => us (i + 1)) sn im := by
  have s0 : sgS (2 + lt) 0 = 2 + lt := rfl
  have s2 : sgS (2 + lt) (2 + lt) = 0 := by unfold sgS; rw [if_neg (by omega), if_pos rfl]
  have s3 : ∀ i, 1 ≤ i → i ≠ 2 + lt → sgS (2 + lt) i = i := fun i h1 h2 => by unfold sgS; rw [if_neg (by omega), if_neg h2]
  have jP : ∀ x k, 34 < x → x < n → P' x k = P x k := fun x k h1 _ => pr x k (by omega) (by omega)
  have ff : fD (fun _ => False) n I I' J J P P' K K := fD_0 (fun x k h1 h2 => ⟨jI x k h1, rfl, jP x k h1 h2⟩) (fun _ _ => rfl)
  have hs : subC n cs (fun i => cs (sgS (2 + lt) i)) := fun i z hi e => Or.inl ⟨sgS (2 + lt) i, sgS_lt (by omega) hi, e⟩
  refine ⟨⟨?_, ?_, fun i hi => ?_, fun i hi => ?_⟩, geC_perm (sgS (2 + lt)) (fun i hi => sgS_lt (by omega) hi) (fun i j hi hj ij => sgS_inj ij) (fun _ _ => rfl) (geC_P g jP), ⟨j12, by omega, j13, by omega⟩, ?_, ?_, fun i hi => ?_, ?_, fun k hk => ?_⟩
  · show P' 0 8 = cs (sgS (2 + lt) 0); rw [s0, e2]; exact p8
  · show P' 0 9 = cs (sgS (2 + lt) 1); rw [s3 1 (by omega) (by omega), pr 0 9 (by decide) (by decide)]; exact lk.2.1
  · show P' 29 i = cs (sgS (2 + lt) (2 + i))
    by_cases q : i = lt
    · rw [q, s2]; exact p29
    · rw [s3 _ (by omega) (by omega)]; exact p29' i hi q
  · show P' 30 i = cs (sgS (2 + lt) (10 + i))
    rw [s3 _ (by omega) (by omega), pr 30 i (by omega) (by decide)]; exact lk.2.2.2 i hi
  · show ∃ b, cs (sgS (2 + lt) 1) = some b
    rw [s3 1 (by omega) (by omega)]; exact e1
  · show cR I' J P' K n _ (cs (sgS (2 + lt) 0)) hd nm (us 0)
    rw [s0]
    have := A 0 (by omega)
    rw [show 2 + (nx + 7 - 0) % 8 = 2 + lt by omega] at this
    exact cR_0 g (by omega) this ff (Nat.le_refl _) hs
  · show cR I' J P' K n _ (cs (sgS (2 + lt) (2 + (lt + 7 - i) % 8))) hd nm (us (i + 1))
    have := A (i + 1) (by omega)
    rw [show 2 + (nx + 7 - (i + 1)) % 8 = 2 + (lt + 7 - i) % 8 by omega] at this
    rw [s3 _ (by omega) (by omega)]
    exact cR_0 g (by omega) this ff (Nat.le_refl _) hs
  · rw [pr 0 10 (by decide) (by decide)]; exact syC_mvD S ff (fun _ _ _ _ _ _ z => z) (Nat.le_refl _) hs
  · exact imC_0 g hk (M k hk) ff (pr _ _ (by omega) (by decide)) (Nat.le_refl _) hs (by show cs (sgS (2 + lt) (10 + k)) = _; rw [s3 _ (by omega) (by omega)])
theorem X_undo (h : XR I J P K n tl tp f hd nm so c us bm row ask st wr tx sn im) (hF : ∀ I' J' P' K' n', XR I' J' P' K' n' tl tp f hd nm (if c = 0 then so else us 0) (c - 1) (fun i => us (i + 1)) bm row ask st wr tx sn im → stX I I' J J' P P' K K' n n' → F (if c = 0 then -1 else nI (c - 1)) I' J' P' K' n') : cqI G d mX11_undo [.ref 0] I J P K n F := by
  obtain ⟨hX, hn, hL, cs, nx, hh⟩ := id h
  obtain ⟨lk, g, ⟨i12, hnx, i13, hc⟩, e1, C0, A, S, M⟩ := id hh
  obtain ⟨a, l0, e0, -⟩ := id C0
  have k29 : (K 29).1 = 16 := by rw [shX_K29 hX]
  have k0 : (K 0).1 = 11 := by rw [shX_K0 hX]
  have sa := (g 0 a (by decide) e0).1
  have e8 : I 0 12 + 8 - 1 = nI (nx + 7) := by rw [i12, show (8 : Int32) = nI 8 from rfl, i_add, show (1 : Int32) = nI 1 from rfl, i_sub (by omega)]; rfl
  have lat : I 0 12 + 8 - 1 - (I 0 12 + 8 - 1) / 8 * 8 = nI ((nx + 7) % 8) := by rw [e8]; exact i_rem (by omega) (b := 8) (by decide) (by decide)
  refine bX11_undo_0 hX ?_
  rw [lat, i13, nI_ck (by omega)]
  have v : vp_in (nI ((nx + 7) % 8)) (K 29).2 := by rw [shX_K29 hX]; exact nI_inN (by omega) (by decide)
  by_cases q : c = 0
  · rw [if_pos q, if_pos q] at hF
    refine br_t (by rw [q]; rfl) (hF _ _ _ _ _ ⟨hX, hn, hL, cs, nx, lk, g, ⟨i12, hnx, ?_, by omega⟩, e1, ?_, fun i hi => by omega, S, M⟩ stX_rf)
    · rw [i13, q]
    · exact C0
  · rw [if_neg q, if_neg q] at hF
    have A0 := A 0 (by omega)
    rw [show 2 + (nx + 7 - 0) % 8 = 2 + (nx + 7) % 8 by omega] at A0
    obtain ⟨b1, l1, eb1, -⟩ := id A0
    have p29b : P 29 ((nx + 7) % 8) = some b1 := (lk.2.2.1 _ (by omega)).trans eb1
    have c1 : nI c - 1 = nI (c - 1) := by rw [show (1 : Int32) = nI 1 from rfl, i_sub (by omega)]
    refine br_f (fun z => q ((nI_eq (b := 0) (by omega) (by decide)).mp z)) ⟨k29, v, fun b2 e2 => ?_, fun e2 => by rw [p29b] at e2; cases e2⟩
    rw [p29b] at e2
    cases e2
    have sb := (g _ b1 (by omega) eb1).1
    rw [c1]
    refine ⟨sb, a, lk.1.trans e0, sa, k29, v, by rw [shC_K sa], k0, k0, k0, k0, k0, ?_⟩
    have jI : ∀ x k, ¬ (x = 0 ∧ (k = 12 ∨ k = 13)) → u2 (u2 I 0 12 (nI ((nx + 7) % 8))) 0 13 (nI (c - 1)) x k = I x k := fun x k z => by simp only [u2]; rw [if_neg (by omega), if_neg (by omega)]
    have jP : ∀ x k, ¬ (x = 0 ∧ k = 8) → x ≠ 29 → u2 (u2 P 29 ((nx + 7) % 8) (some a)) 0 8 (some b1) x k = P x k := fun x k z1 z2 => by simp only [u2]; rw [if_neg z1, if_neg (fun y => z2 y.1)]
    refine hF _ _ _ _ _ ⟨shX_of hX (fun x k _ _ z2 _ _ z3 => jP x k (by omega) z2) (fun _ _ => rfl), hn, XL_of hL (fun x k _ ns => jI x k (by unfold scr at ns; omega)), (fun i => cs (sgS (2 + (nx + 7) % 8) i)), ((nx + 7) % 8), ?_⟩ ⟨fun x k h1 h2 => ⟨jI x k (by omega), rfl, jP x k (by omega) (by omega)⟩, fun _ _ => rfl, Nat.le_refl _, by omega, by omega⟩
    refine XHu rfl g hnx hc q A S M e1 ?_ (u2_s _ _ _ _) (fun x k hx => jI x k (by omega)) lk eb1 (u2_s _ _ _ _) ?_ (fun i hi ne => ?_) jP
    · rw [u2_k _ _ _ _ (by decide), u2_s]
    · rw [u2_a _ _ _ _ (by decide), u2_s, e0]
    · rw [u2_a _ _ _ _ (by decide), u2_k _ _ _ _ ne]; exact lk.2.2.1 i hi
/-- a house is taken: the cellars change places -/
theorem XHh {hd' so' : Nat → Nat} {nm' : Nat → List Nat} (g : geC P K n cs) (hnx : nx < 8) (e0 : cs 0 = some a) (e1 : cs 1 = some b) (T : cR I J P K n cs (some b) hd' nm' so') (M : ∀ k, k < 2 → imC I J P K n cs k (im k)) (j12 : I' 0 12 = nI nx) (j13 : I' 0 13 = 0) (jI : ∀ x k, 34 < x → I' x k = I x k) (lk : lkC P cs) (p8 : P' 0 8 = some b) (p9 : P' 0 9 = some a) (p10 : P' 0 10 = none) (pr : ∀ x k, ¬ (x = 0 ∧ 8 ≤ k ∧ k ≤ 10) → P' x k = P x k) : XHc (fun i => cs (sgS 1 i)) nx I' J P' K n hd' nm' so' 0 us none im := by
  have s0 : sgS 1 0 = 1 := rfl
  have s1 : sgS 1 1 = 0 := rfl
  have s3 : ∀ i, 2 ≤ i → sgS 1 i = i := fun i h1 => by unfold sgS; rw [if_neg (by omega), if_neg (by omega)]
  have jP : ∀ x k, 34 < x → x < n → P' x k = P x k := fun x k h1 _ => pr x k (by omega)
  have ff : fD (fun _ => False) n I I' J J P P' K K := fD_0 (fun x k h1 h2 => ⟨jI x k h1, rfl, jP x k h1 h2⟩) (fun _ _ => rfl)
  have hs : subC n cs (fun i => cs (sgS 1 i)) := fun i z hi e => Or.inl ⟨sgS 1 i, sgS_lt (by omega) hi, e⟩
  refine ⟨⟨?_, ?_, fun i hi => ?_, fun i hi => ?_⟩, geC_perm (sgS 1) (fun i hi => sgS_lt (by omega) hi) (fun i j hi hj ij => sgS_inj ij) (fun _ _ => rfl) (geC_P g jP), ⟨j12, hnx, j13, by omega⟩, ⟨a, e0⟩, ?_, fun i hi => by omega, p10, fun k hk => ?_⟩
  · show P' 0 8 = cs (sgS 1 0); rw [s0, e1]; exact p8
  · show P' 0 9 = cs (sgS 1 1); rw [s1, e0]; exact p9
  · show P' 29 i = cs (sgS 1 (2 + i)); rw [s3 _ (by omega), pr 29 i (by omega)]; exact lk.2.2.1 i hi
  · show P' 30 i = cs (sgS 1 (10 + i)); rw [s3 _ (by omega), pr 30 i (by omega)]; exact lk.2.2.2 i hi
  · show cR I' J P' K n _ (cs (sgS 1 0)) hd' nm' so'
    rw [s0]
    rw [← e1] at T
    exact cR_0 g (by decide) T ff (Nat.le_refl _) hs
  · exact imC_0 g hk (M k hk) ff (pr _ _ (by omega)) (Nat.le_refl _) hs (by show cs (sgS 1 (10 + k)) = _; rw [s3 _ (by omega)])
/-- the reader has read, the tape is empty, the fault is v -/
theorem XL_rd {v : Int32} (h : XL I tl tp f bm row ask st wr tx) (e1 : I' 0 1 = 0) (e3 : I' 0 3 = v) (q : ∀ x k, x ≤ 34 → x ≠ 2 → ¬ (x = 0 ∧ (k = 1 ∨ k = 3 ∨ k = 13)) → I' x k = I x k) : XL I' 0 tp v bm row ask st wr tx := by
  obtain ⟨h1, h2, h3, ⟨h4, h5⟩, h6, ⟨h7, h8⟩, h9⟩ := h
  exact ⟨⟨e1, by omega, fun j hj => by omega⟩, e3, xBl_of h3 (q _ _ (by decide) (by decide) (by decide)) (fun k => q _ _ (by decide) (by decide) (by omega)), ⟨(q _ _ (by decide) (by decide) (by decide)).trans h4, (q _ _ (by decide) (by decide) (by decide)).trans h5⟩, xWr_of h6 (q _ _ (by decide) (by decide) (by decide)) (fun k => q _ _ (by decide) (by decide) (by omega)), ⟨rTg_of h7 (q _ _ (by decide) (by decide) (by decide)) (fun k => q _ _ (by decide) (by decide) (by omega)), h8⟩, fun j hj => rgB_eq (fun c hc => q c j (by omega) (by omega) (by omega)) (h9 j hj)⟩
def xhPost (I : sI) (J : sJ) (P : sP) (K : sK) (n : Nat) (tp : Nat → Nat) (hd : Nat → Nat) (nm : Nat → List Nat) (so : Nat → Nat) (c : Nat) (us : Nat → Nat → Nat) (bm : Nat) (row : Nat → Nat) (ask st : Int32) (wr : Option (Nat → Int32)) (tx : List Nat) (sn : Option (List itT)) (im : Nat → Option imT) (F : Int32 → sI → sJ → sP → sK → Nat → Prop) (r : pE (hS × Nat)) : Prop := match r with
  | .error e => ∀ I' J' P' K' n', XR I' J' P' K' n' 0 tp (nI e.1) hd nm so c us bm row ask st wr tx sn im → stX I I' J J' P P' K K' n n' → F ((-1) - nI e.2) I' J' P' K' n'
  | .ok p => ∀ I' J' P' K' n', XR I' J' P' K' n' 0 tp 0 p.1.1 p.1.2.1 (stS p.1.1) 0 us bm row ask st wr tx none im → stX I I' J J' P P' K K' n n' → F (nI p.2) I' J' P' K' n'
theorem X_house (bu : bud K n) (h : XR I J P K n tl tp f hd nm so c us bm row ask st wr tx sn im) (hF : xhPost I J P K n tp hd nm so c us bm row ask st wr tx sn im F (pHouse tp tl)) : cqI G (d + 10) mX11_house [.ref 0] I J P K n F := by
  obtain ⟨hX, hn, hL, cs, nx, hh⟩ := id h
  obtain ⟨lk, g, ⟨i12, hnx, i13, hc⟩, ⟨b, e1⟩, C0, A, S, M⟩ := id hh
  obtain ⟨a, l0, e0, -⟩ := id C0
  obtain ⟨sb, ⟨ob1, ob2, ob3⟩, -⟩ := g 1 b (by decide) e1
  have k0 : (K 0).1 = 11 := by rw [shX_K0 hX]
  have bu1 := bu.1
  have bu2 := bu.2
  refine bX11_house_0 hX (C_openTape (lim := 900) hX hL.1.1 hL.1.2.1 (by decide) hL.1.2.2 (fun I1 J1 R1 r9 r10 r1 fI1 fJ1 => ?_))
  have ul : ∀ x, x < n → u1 K n (4, 8) x = K x := fun x hx => u1_a _ _ (by omega)
  have zP : ∀ x k, x < n → x ≠ 2 → z2 (u2 P 2 0 (some 1)) n none x k = P x k := fun x k h1 h2 => by rw [z2_a _ _ _ (by omega), u2_a _ _ _ _ h2]
  refine ⟨by omega, by omega, by rw [ul 0 (by omega)]; exact k0, 2, by rw [zP 0 2 (by omega) (by decide)]; exact shX_P0_2 hX, by rw [ul 0 (by omega)]; exact k0, b, by rw [zP 0 9 (by omega) (by decide)]; exact lk.2.1.trans e1, ?_⟩
  refine C_newH (a := n) (c := b) rfl (u1_s _ _ _) (by omega) (by rw [gS_new]; omega) (fun I2 J2 P2 K2 sH sL nw fr frP frK frS => ?_)
  have fI : ∀ x k, x < n → I2 x k = I1 x k := fun x k hx => (fr x k (by omega)).1.trans (z2_a _ _ _ (by omega))
  have fJ : ∀ x k, x < n → J2 x k = J1 x k := fun x k hx => (fr x k (by omega)).2.trans (z2_a _ _ _ (by omega))
  have fP : ∀ x k, x < n → x ≠ 2 → P2 x k = P x k := fun x k hx h2 => (frP x k hx).trans (zP x k hx h2)
  have fK : ∀ x, x < n → K2 x = K x := fun x hx => (frK x (by omega)).trans (ul x hx)
  have hX2 : shX P2 K2 := shX_of hX (fun x k hx h2 _ _ _ _ => fP x k (by omega) h2) (fun x hx => fK x (by omega))
  have hP2 : P2 2 0 = some 1 := (frP 2 0 (by omega)).trans (by rw [z2_a _ _ _ (by omega), u2_s])
  have sb2 : shC P2 K2 b := shC_of sb (fun x k h1 h2 _ => fP x k (by omega) (by omega)) (fun x h1 h2 => fK x (by omega))
  have kn : (K2 n).1 = 4 := by rw [shH_K sH]
  have p6 : ap6 n b (n + 1) := ⟨by omega, ob1, by omega, by omega, by omega, by omega⟩
  have R2 : rP6 I2 J2 tl 900 tp (tok tp tl 900 0) := rP6_of R1 (fun x k hx => fI x k (by omega)) (fJ 2 7 (by omega))
  have I2n : ∀ k, I2 n k = 0 := fun k => (fr n k (by omega)).1.trans (z2_s _ _ _ _)
  -- what the two ends have alike
  have g2 : geC (u2 P2 b 0 (some (n + 1))) K2 (n + 7) cs := geC_mv (n := n) (P := P) (K := K) (b := b) g (fun x k h1 h2 h3 => by simp only [u2]; rw [if_neg h3]; exact fP x k h2 (by omega)) fK ⟨1, by decide, e1⟩ (by omega)
  have stpE : ∀ (I3 : sI) (J3 : sJ) (P3 : sP), frHs n b (n + 1) I2 I3 J2 J3 → (∀ x k, 91 ≤ x → x ≤ 116 → P3 x k = P2 x k) → ∀ (I4 : sI), (∀ x k, x ≠ 0 → I4 x k = I3 x k) → stX I I4 J J3 P P3 K K2 n (n + 1 + 6) := fun I3 J3 P3 f3 p3 I4 q4 => ⟨fun x k h1 h2 => ⟨(q4 x k (by omega)).trans ((f3.1 x k (by omega) (by omega) (by omega) (by omega)).trans ((fI x k (by omega)).trans (fI1 x k (by omega) (by omega)))), (f3.2 x k (by omega) (by omega)).trans ((fJ x k (by omega)).trans (fJ1 x k (by omega))), (p3 x k h1 h2).trans (fP x k (by omega) (by omega))⟩, fK, by omega, by omega, by have := frS; rw [gS_new] at this; omega⟩
  have mvT : ∀ (I3 : sI) (J3 : sJ), frHs n b (n + 1) I2 I3 J2 J3 → ∀ (I4 : sI), (∀ x k, ¬ (x = 0 ∧ (k = 3 ∨ k = 13)) → I4 x k = I3 x k) → fT b n I I4 J J3 P (u2 P2 b 0 (some (n + 1))) K K2 := fun I3 J3 f3 I4 q4 => ⟨fun x k h1 h2 h3 => ⟨(q4 x k (by omega)).trans ((f3.1 x k (by omega) (by omega) (by omega) (by omega)).trans ((fI x k (by omega)).trans (fI1 x k (by omega) (by omega)))), (f3.2 x k (by omega) (by omega)).trans ((fJ x k (by omega)).trans (fJ1 x k (by omega)))⟩, fun x k h1 h2 h3 => by simp only [u2]; rw [if_neg h3]; exact fP x k h2 (by omega), fK⟩
  refine ⟨kn, C_readH (a := n) (c := b) (l := n + 1) hX2 hP2 sH sb2 sL p6 R2 nw ⟨I2n _, I2n _, I2n _, I2n _⟩ ?_⟩
  have k02 : (K2 0).1 = 11 := by rw [fK 0 (by omega)]; exact k0
  have k22 : (K2 2).1 = 6 := by rw [shX_K2 hX2]
  have pb : ∀ x k, x ≤ 34 → u2 P2 b 0 (some (n + 1)) x k = P2 x k := fun x k hx => u2_a _ _ _ _ (by omega)
  change hQ6 n b (n + 1) I2 J2 _ (pHouse tp tl)
  cases e : pHouse tp tl with
  | error q =>
    rw [e] at hF
    intro I3 J3 z9 z10 f3
    refine ⟨k02, 2, by rw [pb 0 2 (by decide)]; exact shX_P0_2 hX2, k22, k02, br_t rfl ⟨k02, 2, by rw [pb 0 2 (by decide)]; exact shX_P0_2 hX2, k22, ?_⟩⟩
    rw [z9, u2_a _ _ _ _ (by decide), z10]
    have q4 : ∀ x k, ¬ (x = 0 ∧ k = 3) → u2 I3 0 3 (nI q.1) x k = I3 x k := fun x k z => by simp only [u2]; rw [if_neg z]
    have lo : ∀ x k, x ≤ 34 → x ≠ 2 → ¬ (x = 0 ∧ (k = 1 ∨ k = 3)) → u2 I3 0 3 (nI q.1) x k = I x k := fun x k h1 h2 h3 => (q4 x k (by omega)).trans ((f3.1 x k h2 (by omega) (by omega) (by omega)).trans ((fI x k (by omega)).trans (fI1 x k h2 (by omega))))
    refine hF _ _ _ _ _ ⟨shX_of hX2 (fun x k hx _ _ _ _ _ => pb x k hx) (fun _ _ => rfl), by omega, XL_rd hL ?_ (u2_s _ _ _ _) (fun x k h1 h2 h3 => lo x k h1 h2 (by omega)), cs, nx, XHc_mv hh e1 (mvT I3 J3 f3 _ (fun x k z => q4 x k (by omega))) (fun x k hx h2 => (pb x k hx).trans (fP x k (by omega) h2)) (lo _ _ (by decide) (by decide) (by decide)) (lo _ _ (by decide) (by decide) (by decide)) (by omega)⟩ (stpE I3 J3 _ f3 (fun x k h1 h2 => u2_a _ _ _ _ (by omega)) _ (fun x k hx => q4 x k (by omega)))
    rw [q4 0 1 (by decide), f3.1 0 1 (by decide) (by omega) (by omega) (by omega), fI 0 1 (by omega)]; exact r1
  | ok q =>
    rw [e] at hF
    intro I3 J3 wH3 L3 N3 C3 c7 z9 z10 f3
    refine ⟨k02, 2, by rw [pb 0 2 (by decide)]; exact shX_P0_2 hX2, k22, k02, br_f (by decide) ⟨k02, a, by rw [pb 0 8 (by decide), fP 0 8 (by omega) (by decide)]; exact lk.1.trans e0, k02, b, by rw [pb 0 9 (by decide), fP 0 9 (by omega) (by decide)]; exact lk.2.1.trans e1, k02, k02, k02, k02, kn, ?_⟩⟩
    have e9 : I3 2 9 = 0 := by rw [z9, fI 2 9 (by omega)]; exact r9
    rw [e9]
    have q4 : ∀ x k, ¬ (x = 0 ∧ (k = 3 ∨ k = 13)) → u2 (u2 I3 0 3 0) 0 13 0 x k = I3 x k := fun x k z => by simp only [u2]; rw [if_neg (by omega), if_neg (by omega)]
    rw [q4 n 7 (by omega), c7]
    have lo : ∀ x k, x ≤ 34 → x ≠ 2 → ¬ (x = 0 ∧ (k = 1 ∨ k = 3 ∨ k = 13)) → u2 (u2 I3 0 3 0) 0 13 0 x k = I x k := fun x k h1 h2 h3 => (q4 x k (by omega)).trans ((f3.1 x k h2 (by omega) (by omega) (by omega)).trans ((fI x k (by omega)).trans (fI1 x k h2 (by omega))))
    have pq : ∀ x k, ¬ (x = 0 ∧ 8 ≤ k ∧ k ≤ 10) → u2 (u2 (u2 (u2 P2 b 0 (some (n + 1))) 0 8 (some b)) 0 9 (some a)) 0 10 none x k = u2 P2 b 0 (some (n + 1)) x k := fun x k z => by
      generalize u2 P2 b 0 (some (n + 1)) = P0
      simp only [u2]
      rw [if_neg (by omega), if_neg (by omega), if_neg (by omega)]
    have mv := mvT I3 J3 f3 _ q4
    refine hF _ _ _ _ _ ⟨shX_of hX2 (fun x k hx _ _ _ _ h3 => (pq x k h3).trans (pb x k hx)) (fun _ _ => rfl), by omega, XL_rd hL ?_ ?_ (fun x k h1 h2 h3 => lo x k h1 h2 h3), _, nx, XHh (I := u2 (u2 I3 0 3 0) 0 13 0) (P := u2 P2 b 0 (some (n + 1))) g2 hnx e0 e1 ⟨b, n + 1, rfl, u2_s _ _ _ _, shL_of sL (fun x k h1 h2 => u2_a _ _ _ _ (by omega)) (fun _ _ _ => rfl), ⟨by omega, by omega, by omega, fun i z hi ez => ?_⟩, rL_of L3 (fun x k h1 h2 => q4 x k (by omega)), N3, rC_of C3 (fun x k h1 h2 => q4 x k (by omega)) (wf_casks wH3.1), wH3.1⟩ (fun k hk => imC_at g hk (by decide) (by omega) e1 (M k hk) mv ?_ (by omega) (subC_rf n cs) rfl) ?_ (u2_s _ _ _ _) (fun _ _ _ => rfl) ?_ ?_ ?_ (u2_s _ _ _ _) pq⟩ (stpE I3 J3 _ f3 (fun x k h1 h2 => (pq x k (by omega)).trans (u2_a _ _ _ _ (by omega))) _ (fun x k hx => q4 x k (by omega)))
    · rw [q4 0 1 (by decide), f3.1 0 1 (by decide) (by omega) (by omega) (by omega), fI 0 1 (by omega)]; exact r1
    · rw [u2_k _ _ _ _ (by decide), u2_s]
    · have := (g i z hi ez).2.1.2.2
      omega
    · rw [pb 31 k (by decide)]; exact fP 31 k (by omega) (by decide)
    · exact (lo _ _ (by decide) (by decide) (by decide)).trans i12
    · exact lkC_of lk (fun x k hx h2 => (pb x k hx).trans (fP x k (by omega) h2))
    · rw [u2_k _ _ _ _ (by decide), u2_k _ _ _ _ (by decide), u2_s]
    · rw [u2_k _ _ _ _ (by decide), u2_s]
end HouX
