/-! the class: sentence, image, restore, book over its state -/
section ResX
variable {G : gG} {d : Nat} {I I' I1 I2 : sI} {J J' : sJ} {P P' P1 P2 : sP} {K K' : sK} {n n' : Nat} {cs cs' : Nat → Option Nat} {a b nx : Nat} {F : Int32 → sI → sJ → sP → sK → Nat → Prop} {FK : Int32 → sI → sJ → Prop}
variable {tl : Nat} {tp : Nat → Nat} {f : Int32} {hd so : Nat → Nat} {nm : Nat → List Nat} {c : Nat} {us : Nat → Nat → Nat} {bm : Nat} {row : Nat → Nat} {ask st : Int32} {wr : Option (Nat → Int32)} {tx : List Nat} {sn : Option (List itT)} {im : Nat → Option imT}
theorem XHc_sn {sn' : Option (List itT)} {o : Option Nat} (h : XHc cs nx I J P K n hd nm so c us sn im) (S' : syC I (u2 P 0 10 o) K n cs o sn') : XHc cs nx I J (u2 P 0 10 o) K n hd nm so c us sn' im := by
  obtain ⟨lk, g, i, t, C0, A, S, M⟩ := h
  have jP : ∀ x k, 34 < x → x < n → u2 P 0 10 o x k = P x k := fun x k h1 _ => u2_a _ _ _ _ (by omega)
  have ff : fD (fun _ => False) n I I J J P (u2 P 0 10 o) K K := fD_0 (fun x k h1 h2 => ⟨rfl, rfl, jP x k h1 h2⟩) (fun _ _ => rfl)
  have hs := subC_rf n cs
  refine ⟨⟨(u2_k _ _ _ _ (by decide)).trans lk.1, (u2_k _ _ _ _ (by decide)).trans lk.2.1, fun i hi => (u2_a _ _ _ _ (by decide)).trans (lk.2.2.1 i hi), fun i hi => (u2_a _ _ _ _ (by decide)).trans (lk.2.2.2 i hi)⟩, geC_P g jP, i, t, cR_0 g (by decide) C0 ff (Nat.le_refl _) hs, fun i hi => cR_0 g (by omega) (A i hi) ff (Nat.le_refl _) hs, ?_, fun k hk => imC_0 g hk (M k hk) ff (u2_a _ _ _ _ (by decide)) (Nat.le_refl _) hs rfl⟩
  rw [u2_s]
  exact S'
def xsPost (I : sI) (J : sJ) (P : sP) (K : sK) (n : Nat) (tp : Nat → Nat) (hd : Nat → Nat) (nm : Nat → List Nat) (so : Nat → Nat) (c : Nat) (us : Nat → Nat → Nat) (bm : Nat) (row : Nat → Nat) (ask st : Int32) (wr : Option (Nat → Int32)) (tx : List Nat) (sn : Option (List itT)) (im : Nat → Option imT) (F : Int32 → sI → sJ → sP → sK → Nat → Prop) (r : pE sgT) : Prop := match r with
  | .error e => ∀ I' J' P' K' n', XR I' J' P' K' n' 0 tp (nI e.1) hd nm so c us bm row ask st wr tx sn im → stX I I' J J' P P' K K' n n' → F ((-1) - nI e.2) I' J' P' K' n'
  | .ok p => ∀ I' J' P' K' n', XR I' J' P' K' n' 0 tp 0 hd nm so c us bm row ask st wr tx (some p.1) im → stX I I' J J' P P' K K' n n' → F (nI p.2) I' J' P' K' n'
theorem X_sentence (bu : bud K n) (h : XR I J P K n tl tp f hd nm so c us bm row ask st wr tx sn im) (hF : xsPost I J P K n tp hd nm so c us bm row ask st wr tx sn im F (pSen hd nm tp tl)) : cqI G (d + 27) mX11_sentence [.ref 0] I J P K n F := by
  obtain ⟨hX, hn, hL, cs, nx, hh⟩ := id h
  obtain ⟨lk, g, ⟨i12, hnx, i13, hc⟩, ⟨b, e1⟩, C0, A, S, M⟩ := id hh
  obtain ⟨a, l, p8, e0, oa, oL, Sa, L, N, C, w⟩ := XH_sC hh
  obtain ⟨sb, ⟨ob1, ob2, ob3⟩, -⟩ := g 1 b (by decide) e1
  obtain ⟨oa1, oa2, oa3⟩ := oa
  obtain ⟨ol1, ol2, ol3, ol4⟩ := id oL
  have k0 : (K 0).1 = 11 := by rw [shX_K0 hX]
  have bu1 := bu.1
  have bu2 := bu.2
  refine bX11_sentence_0 hX (C_openTape (lim := 200) hX hL.1.1 hL.1.2.1 (by decide) hL.1.2.2 (fun I1 J1 R1 r9 r10 r1 fI1 fJ1 => ?_))
  have ul : ∀ x, x < n → u1 K n (9, 4) x = K x := fun x hx => u1_a _ _ (by omega)
  have zP : ∀ x k, x < n → x ≠ 2 → z2 (u2 P 2 0 (some 1)) n none x k = P x k := fun x k h1 h2 => by rw [z2_a _ _ _ (by omega), u2_a _ _ _ _ h2]
  refine ⟨by omega, by omega, by rw [ul 0 (by omega)]; exact k0, 2, by rw [zP 0 2 (by omega) (by decide)]; exact shX_P0_2 hX, by rw [ul 0 (by omega)]; exact k0, a, by rw [zP 0 8 (by omega) (by decide)]; exact p8, by rw [ul a (by omega), shC_K Sa.1], l, by rw [zP a 0 (by omega) (by omega)]; exact Sa.2.1, ?_⟩
  refine C_newT (a := n) (l := l) rfl (u1_s _ _ _) (by omega) (by rw [gS_new]; omega) (fun I2 J2 P2 K2 sT sN n3 fr frP frK frS => ?_)
  have fI : ∀ x k, x < n → I2 x k = I1 x k := fun x k hx => (fr x k (by omega)).1.trans (z2_a _ _ _ (by omega))
  have fJ : ∀ x k, x < n → J2 x k = J1 x k := fun x k hx => (fr x k (by omega)).2.trans (z2_a _ _ _ (by omega))
  have fP : ∀ x k, x < n → x ≠ 2 → P2 x k = P x k := fun x k hx h2 => (frP x k hx).trans (zP x k hx h2)
  have fK : ∀ x, x < n → K2 x = K x := fun x hx => (frK x (by omega)).trans (ul x hx)
  have hX2 : shX P2 K2 := shX_of hX (fun x k hx h2 _ _ _ _ => fP x k (by omega) h2) (fun x hx => fK x (by omega))
  have hP2 : P2 2 0 = some 1 := (frP 2 0 (by omega)).trans (by rw [z2_a _ _ _ (by omega), u2_s])
  have sL2 : shL P2 K2 l := shL_of Sa.2.2.1 (fun x k h1 h2 => fP x k (by omega) (by omega)) (fun x h1 h2 => fK x (by omega))
  have kn : (K2 n).1 = 9 := by rw [shT_K sT]
  have p9 : ap9 n (n + 1) l := ⟨by omega, by omega, by omega, by omega, by omega, by omega⟩
  have R2 : rP6 I2 J2 tl 200 tp (tok tp tl 200 0) := rP6_of R1 (fun x k hx => fI x k (by omega)) (fJ 2 7 (by omega))
  have I2n : ∀ k, I2 n k = 0 := fun k => (fr n k (by omega)).1.trans (z2_s _ _ _ _)
  have Y : lyB P2 K2 I2 J2 l hd nm := ⟨sL2, ol1, by rw [fI l 0 (by omega), fI1 l 0 (by omega) (by omega)]; exact L.1 0 (by decide), w.1, rLN_of N (fun k => (fJ _ k (by omega)).trans (fJ1 _ k (by omega)))⟩
  have A9 : rS9 I2 n (n + 1) ([], 0) := ⟨⟨n3, fun i hi => (by cases hi)⟩, I2n 3⟩
  have k02 : (K2 0).1 = 11 := by rw [fK 0 (by omega)]; exact k0
  have k22 : (K2 2).1 = 6 := by rw [shX_K2 hX2]
  have stE : ∀ (I3 : sI) (J3 : sJ) (P3 : sP), frS9 n (n + 1) I2 I3 J2 J3 → (∀ x k, 91 ≤ x → x ≤ 116 → P3 x k = P2 x k) → ∀ (I4 : sI), (∀ x k, x ≠ 0 → I4 x k = I3 x k) → stX I I4 J J3 P P3 K K2 n (n + 1 + 4) := fun I3 J3 P3 f3 p3 I4 q4 => ⟨fun x k h1 h2 => ⟨(q4 x k (by omega)).trans ((f3.1 x k (by omega) (by omega) (by omega)).trans ((fI x k (by omega)).trans (fI1 x k (by omega) (by omega)))), (f3.2 x k (by omega)).trans ((fJ x k (by omega)).trans (fJ1 x k (by omega))), (p3 x k h1 h2).trans (fP x k (by omega) (by omega))⟩, fK, by omega, by omega, by have := frS; rw [gS_new] at this; omega⟩
  have mvT : ∀ (I3 : sI) (J3 : sJ), frS9 n (n + 1) I2 I3 J2 J3 → ∀ (I4 : sI), (∀ x k, ¬ (x = 0 ∧ k = 3) → I4 x k = I3 x k) → fT b n I I4 J J3 P P2 K K2 := fun I3 J3 f3 I4 q4 => ⟨fun x k h1 h2 h3 => ⟨(q4 x k (by omega)).trans ((f3.1 x k (by omega) (by omega) (by omega)).trans ((fI x k (by omega)).trans (fI1 x k (by omega) (by omega)))), (f3.2 x k (by omega)).trans ((fJ x k (by omega)).trans (fJ1 x k (by omega)))⟩, fun x k h1 h2 h3 => fP x k h2 (by omega), fK⟩
  refine ⟨kn, C_readS (a := n) (s := n + 1) (l := l) hX2 hP2 sT sL2 sN p9 R2 Y A9 ?_⟩
  change sQ9 n (n + 1) I2 J2 _ (pSen hd nm tp tl)
  cases e : pSen hd nm tp tl with
  | error q =>
    rw [e] at hF
    intro I3 J3 z9 z10 f3
    refine ⟨k02, 2, shX_P0_2 hX2, k22, k02, br_t rfl ⟨k02, 2, shX_P0_2 hX2, k22, ?_⟩⟩
    rw [z9, u2_a _ _ _ _ (by decide), z10]
    have q4 : ∀ x k, ¬ (x = 0 ∧ k = 3) → u2 I3 0 3 (nI q.1) x k = I3 x k := fun x k z => by simp only [u2]; rw [if_neg z]
    have lo : ∀ x k, x ≤ 34 → x ≠ 2 → ¬ (x = 0 ∧ (k = 1 ∨ k = 3)) → u2 I3 0 3 (nI q.1) x k = I x k := fun x k h1 h2 h3 => (q4 x k (by omega)).trans ((f3.1 x k h2 (by omega) (by omega)).trans ((fI x k (by omega)).trans (fI1 x k h2 (by omega))))
    refine hF _ _ _ _ _ ⟨hX2, by omega, XL_rd hL ?_ (u2_s _ _ _ _) (fun x k h1 h2 h3 => lo x k h1 h2 (by omega)), cs, nx, XHc_mv hh e1 (mvT I3 J3 f3 _ (fun x k z => q4 x k (by omega))) (fun x k hx h2 => fP x k (by omega) h2) (lo _ _ (by decide) (by decide) (by decide)) (lo _ _ (by decide) (by decide) (by decide)) (by omega)⟩ (stE I3 J3 _ f3 (fun x k h1 h2 => rfl) _ (fun x k hx => q4 x k (by omega)))
    rw [q4 0 1 (by decide), f3.1 0 1 (by decide) (by omega) (by omega), fI 0 1 (by omega)]; exact r1
  | ok q =>
    rw [e] at hF
    intro I3 J3 A3 kp3
    obtain ⟨z9, z10, f3⟩ := kp3
    refine ⟨k02, 2, shX_P0_2 hX2, k22, k02, br_f (by decide) ⟨kn, n + 1, shT_P2 sT, k02, kn, ?_⟩⟩
    have e9 : I3 2 9 = 0 := by rw [z9, fI 2 9 (by omega)]; exact r9
    rw [e9]
    have q4 : ∀ x k, ¬ (x = 0 ∧ k = 3) → u2 I3 0 3 0 x k = I3 x k := fun x k z => by simp only [u2]; rw [if_neg z]
    rw [q4 n 3 (by omega), A3.2]
    have lo : ∀ x k, x ≤ 34 → x ≠ 2 → ¬ (x = 0 ∧ (k = 1 ∨ k = 3)) → u2 I3 0 3 0 x k = I x k := fun x k h1 h2 h3 => (q4 x k (by omega)).trans ((f3.1 x k h2 (by omega) (by omega)).trans ((fI x k (by omega)).trans (fI1 x k h2 (by omega))))
    have hs := pSen_ok w.1 e
    refine hF _ _ _ _ _ ⟨shX_of hX2 (fun x k hx _ _ _ _ h3 => ?_) (fun _ _ => rfl), by omega, XL_rd hL ?_ (u2_s _ _ _ _) (fun x k h1 h2 h3 => lo x k h1 h2 (by omega)), cs, nx, XHc_sn (XHc_mv hh e1 (mvT I3 J3 f3 _ (fun x k z => q4 x k (by omega))) (fun x k hx h2 => fP x k (by omega) h2) (lo _ _ (by decide) (by decide) (by decide)) (lo _ _ (by decide) (by decide) (by decide)) (by omega)) ⟨n + 1, rfl, shN_of sN (fun k => u2_a _ _ _ _ (by omega)) (fun _ _ _ => rfl), ⟨by omega, by omega, by omega, fun i z hi ez => ?_⟩, rN6_of A3.1 (fun x k h1 h2 => q4 x k (by omega)), hs⟩⟩ (stE I3 J3 _ f3 (fun x k h1 h2 => u2_a _ _ _ _ (by omega)) _ (fun x k hx => q4 x k (by omega)))
    · simp only [u2]; rw [if_neg (by omega)]
    · rw [q4 0 1 (by decide), f3.1 0 1 (by decide) (by omega) (by omega), fI 0 1 (by omega)]; exact r1
    · have := (g i z hi ez).2.1.2.2
      omega
/-- an image is made in the cellar z -/
def imU (im : Nat → Option imT) (k : Nat) (q : imT) : Nat → Option imT := fun j => if j = k then some q else im j
theorem X_img44 {k z : Nat} (hk : k < 2) (hX : shX P K) (hn : 116 < n) (lk : lkC P cs) (g : geC P K n cs) (iI : I 0 12 = nI nx ∧ nx < 8 ∧ I 0 13 = nI c ∧ c ≤ 8) (t : ∃ b, cs 1 = some b) (C0 : cR I J P K n cs (cs 0) hd nm so) (A : ∀ i, i < c → cR I J P K n cs (cs (2 + (nx + 7 - i) % 8)) hd nm (us i)) (S : syC I P K n cs (P 0 10) sn) (M : ∀ j, j < 2 → j ≠ k → imC I J P K n cs j (im j)) (ez : cs (10 + k) = some z) (hF : ∀ I' P', shX P' K → XH I' J P' K n hd nm so c us sn (imU im k ((hd, nm, so), sn)) → (∀ x y, ¬ (z ≤ x ∧ x ≤ z + 24) → I' x y = I x y) → (∀ x y, x ≤ 116 → 91 ≤ x → P' x y = P x y) → F 1 I' J P' K n) : Ok G (d + 2) mX11_image 44 [some (.ref 0), some (.int (nI k)), some (.ref z)] [] I J P K n (qI F) := by
  obtain ⟨a, l, e0, oa, oL, Sa, L, N, C, w⟩ := cR_sC g (by decide) C0
  obtain ⟨sz, ⟨oz1, oz2, oz3⟩, apz⟩ := g (10 + k) z (by omega) ez
  have ap := apz 0 a (by decide) (by omega) e0
  have apl := oL.2.2.2 (10 + k) z (by omega) ez
  obtain ⟨ol1, ol2, ol3, -⟩ := id oL
  refine bX11_image_44 hX _ _ sz ⟨a, lk.1.trans e0, Sa.1, C_copyFrom sz Sa oz1 ap apl C L w (fun I1 r1 f1 => ?_)⟩
  have k0 : (K 0).1 = 11 := by rw [shX_K0 hX]
  have k31 : (K 31).1 = 17 := by rw [shX_K31 hX]
  have v31 : vp_in (nI k) (K 31).2 := by rw [shX_K31 hX]; exact nI_inN hk (by decide)
  have pz : ∀ x y, ¬ (x = z ∧ y = 0) → u2 P z 0 (some l) x y = P x y := fun x y q => by simp only [u2]; rw [if_neg q]
  rw [nI_ck (by omega)]
  have fin : F 1 I1 J (u2 (u2 P z 0 (some l)) 31 k (P 0 10)) K n := by
    have pw : ∀ x y, x ≠ 31 → ¬ (x = z ∧ y = 0) → u2 (u2 P z 0 (some l)) 31 k (P 0 10) x y = P x y := fun x y h1 h2 => by rw [u2_a _ _ _ _ h1]; exact pz x y h2
    have ff : fT z n I I1 J J P (u2 (u2 P z 0 (some l)) 31 k (P 0 10)) K K := ⟨fun x y _ _ q => ⟨f1 x y q, rfl⟩, fun x y h1 _ q => pw x y (by omega) q, fun _ _ => rfl⟩
    have hs := subC_rf n cs
    have hb : ∃ j, j < 12 ∧ cs j = some z := ⟨10 + k, by omega, ez⟩
    refine hF I1 _ (shX_of hX (fun x y hx _ _ _ h31 _ => pw x y h31 (by omega)) (fun _ _ => rfl)) ⟨cs, nx, ⟨?_, ?_, fun i hi => ?_, fun i hi => ?_⟩, geC_mv g ff.2.1 ff.2.2 hb (Nat.le_refl _), ⟨(f1 _ _ (by omega)).trans iI.1, iI.2.1, (f1 _ _ (by omega)).trans iI.2.2.1, iI.2.2.2⟩, t, cR_at g (by decide) (by omega) (by omega) ez C0 ff (Nat.le_refl _) hs, fun i hi => cR_at g (by omega) (by omega) (by omega) ez (A i hi) ff (Nat.le_refl _) hs, ?_, fun j hj => ?_⟩ f1 (fun x y h1 h2 => pw x y (by omega) (by omega))
    · exact (pw _ _ (by decide) (by omega)).trans lk.1
    · exact (pw _ _ (by decide) (by omega)).trans lk.2.1
    · exact (pw _ _ (by decide) (by omega)).trans (lk.2.2.1 i hi)
    · exact (pw _ _ (by decide) (by omega)).trans (lk.2.2.2 i hi)
    · rw [pw 0 10 (by decide) (by omega)]; exact syC_mv S ff hb (Nat.le_refl _) hs
    · by_cases q : j = k
      · subst q
        unfold imU
        rw [if_pos rfl]
        refine ⟨⟨z, l, ez, by rw [u2_a _ _ _ _ (by omega), u2_s], shL_of Sa.2.2.1 (fun x y h1 h2 => pw x y (by omega) (by omega)) (fun _ _ _ => rfl), oL, rL_of L (fun x y h1 h2 => f1 x y (by omega)), N, r1, w⟩, ?_⟩
        rw [u2_s]
        exact syC_mv S ff hb (Nat.le_refl _) hs
      · unfold imU
        rw [if_neg q]
        exact imC_at g hj (by omega) (by omega) ez (M j hj q) ff ((u2_k _ _ _ _ q).trans (pz _ _ (by omega))) (Nat.le_refl _) hs rfl
  have e10 : u2 P z 0 (some l) 0 10 = P 0 10 := pz _ _ (by omega)
  refine ⟨k0, 31, (pz _ _ (by omega)).trans (shX_P0_15 hX), k0, fun b11 eb => ⟨k31, v31, ?_, ?_⟩, fun eb => ⟨k31, v31, ?_⟩⟩
  · rw [e10] at eb
    rw [eb] at S
    cases sn with
    | none => cases S
    | some L0 =>
      obtain ⟨s, es, sN, -⟩ := S
      cases es
      rw [shN_K sN]
  · rw [e10] at eb; rw [← eb]; exact fin
  · rw [e10] at eb; rw [← eb]; exact fin
theorem X_image (x : Int32) (bu : bud K n) (h : XR I J P K n tl tp f hd nm so c us bm row ask st wr tx sn im) (hF0 : inB x 2 = false → F 0 I J P K n) (hF : ∀ k, k < 2 → x = nI k → ∀ I' J' P' K' n', XR I' J' P' K' n' tl tp f hd nm so c us bm row ask st wr tx sn (imU im k ((hd, nm, so), sn)) → stX I I' J J' P P' K K' n n' → F 1 I' J' P' K' n') : cqI G (d + 2) mX11_image [.ref 0, .int x] I J P K n F := by
  obtain ⟨hX, hn, hL, cs, nx, hh⟩ := id h
  obtain ⟨lk, g, iI, t, C0, A, S, M⟩ := id hh
  have bu1 := bu.1
  have bu2 := bu.2
  have k0 : (K 0).1 = 11 := by rw [shX_K0 hX]
  have k30 : (K 30).1 = 16 := by rw [shX_K30 hX]
  refine bX11_image_0 hX _ (rng6 (N := 2) (by decide) (fun e => ?_) hF0)
  obtain ⟨k, hk, rfl⟩ := inB_t e
  have v30 : vp_in (nI k) (K 30).2 := by rw [shX_K30 hX]; exact nI_inN hk (by decide)
  rw [nI_ck (by omega)]
  refine ⟨k30, v30, fun z ez => ?_, fun ez => ?_⟩
  · rw [lk.2.2.2 k hk] at ez
    obtain ⟨sz, ⟨oz1, oz2, oz3⟩, -⟩ := g (10 + k) z (by omega) ez
    refine ⟨sz, X_img44 hk hX hn lk g iI t C0 A S (fun j hj _ => M j hj) ez (fun I' P' a1 a2 a3 a4 => hF k hk rfl _ _ _ _ _ ⟨a1, hn, XL_of hL (fun x y hx _ => a3 x y (by omega)), a2⟩ ⟨fun x y h1 h2 => ⟨a3 x y (by omega), rfl, a4 x y h2 h1⟩, fun _ _ => rfl, Nat.le_refl _, by omega, by omega⟩)⟩
  · rw [lk.2.2.2 k hk] at ez
    obtain ⟨a, l, e0, oa, oL, Sa, L, N, C, w⟩ := cR_sC g (by decide) C0
    obtain ⟨ol1, ol2, ol3, -⟩ := id oL
    have oa1 := oa.1
    have oa3 := oa.2.2
    have ul : ∀ x, x < n → u1 K n (1, 8) x = K x := fun x hx => u1_a _ _ (by omega)
    refine ⟨by omega, by omega, by rw [ul 0 (by omega)]; exact k0, a, by rw [z2_a _ _ _ (by omega)]; exact lk.1.trans e0, by rw [ul a (by omega), shC_K Sa.1], l, by rw [z2_a _ _ _ (by omega)]; exact Sa.2.1, C_newC rfl (by omega) (u1_s _ _ _) (by rw [ul l (by omega), shL_K Sa.2.2.1]) (by omega) (by rw [gS_new]; omega) (fun I2 J2 P2 K2 sn2 _ _ _ _ _ fr fK fS => ?_)⟩
    have fI : ∀ x y, x < n → I2 x y = I x y := fun x y hx => (fr x y hx).1.trans (z2_a _ _ _ (by omega))
    have fJ : ∀ x y, x < n → J2 x y = J x y := fun x y hx => (fr x y hx).2.1.trans (z2_a _ _ _ (by omega))
    have fP : ∀ x y, x < n → P2 x y = P x y := fun x y hx => (fr x y hx).2.2.trans (z2_a _ _ _ (by omega))
    have fK' : ∀ x, x < n → K2 x = K x := fun x hx => (fK x (by omega)).trans (ul x hx)
    have hX2 : shX P2 K2 := shX_of hX (fun x y hx _ _ _ _ _ => fP x y (by omega)) (fun x hx => fK' x (by omega))
    refine ⟨by rw [fK' 0 (by omega)]; exact k0, 30, by rw [fP 0 14 (by omega)]; exact shX_P0_14 hX, by rw [fK' 30 (by omega)]; exact k30, by rw [fK' 30 (by omega)]; exact v30, by rw [shC_K sn2], ?_⟩
    have hX3 : shX (u2 P2 30 k (some n)) K2 := shX_of hX2 (fun x y hx _ _ h30 _ _ => u2_a _ _ _ _ h30) (fun _ _ => rfl)
    have pw : ∀ x y, x < n → ¬ (x = 30 ∧ y = k) → u2 P2 30 k (some n) x y = P x y := fun x y hx q => by simp only [u2]; rw [if_neg q]; exact fP x y hx
    have hs : subC n cs (fun i => if i = 10 + k then some n else cs i) := by
      intro i z hi e
      simp only at e
      by_cases q : i = 10 + k
      · rw [if_pos q] at e; cases e; exact Or.inr (Nat.le_refl _)
      · rw [if_neg q] at e; exact Or.inl ⟨i, hi, e⟩
    have g2 : geC (u2 P2 30 k (some n)) K2 (n + 25) (fun i => if i = 10 + k then some n else cs i) := geC_new g hn (shC_of sn2 (fun x y h1 h2 _ => u2_a _ _ _ _ (by omega)) (fun _ _ _ => rfl)) (fun x y h1 h2 => pw x y h2 (by omega)) fK'
    have ff : fD (fun _ => False) n I I2 J J2 P (u2 P2 30 k (some n)) K K2 := fD_0 (fun x y h1 h2 => ⟨fI x y h2, fJ x y h2, pw x y h2 (by omega)⟩) fK'
    refine X_img44 (n := n + 25) (cs := fun i => if i = 10 + k then some n else cs i) (nx := nx) (c := c) (us := us) (hd := hd) (nm := nm) (so := so) (sn := sn) (im := im) hk hX3 (by omega) ⟨?_, ?_, fun i hi => ?_, fun i hi => ?_⟩ g2 ⟨(fI _ _ (by omega)).trans iI.1, iI.2.1, (fI _ _ (by omega)).trans iI.2.2.1, iI.2.2.2⟩ ?_ ?_ (fun i hi => ?_) ?_ (fun j hj jk => ?_) (if_pos rfl) (fun I' P' a1 a2 a3 a4 => hF k hk rfl _ _ _ _ _ ⟨a1, by omega, XL_of hL (fun x y hx _ => (a3 x y (by omega)).trans (fI x y (by omega))), a2⟩ ⟨fun x y h1 h2 => ⟨(a3 x y (by omega)).trans (fI x y (by omega)), fJ x y (by omega), (a4 x y h2 h1).trans (pw x y (by omega) (by omega))⟩, fK', by omega, by omega, by have q : gS K2 (n + 25) = gS (u1 K n (1, 8)) (n + 1) + 900 := fS; rw [gS_new] at q; omega⟩)
    · exact ((pw 0 8 (by omega) (by omega)).trans lk.1).trans (if_neg (show ¬ 0 = 10 + k by omega)).symm
    · exact ((pw 0 9 (by omega) (by omega)).trans lk.2.1).trans (if_neg (show ¬ 1 = 10 + k by omega)).symm
    · exact ((pw 29 i (by omega) (by omega)).trans (lk.2.2.1 i hi)).trans (if_neg (show ¬ 2 + i = 10 + k by omega)).symm
    · by_cases q : i = k
      · subst q; exact (u2_s _ _ _ _).trans (if_pos rfl).symm
      · exact ((pw 30 i (by omega) (by omega)).trans (lk.2.2.2 i hi)).trans (if_neg (show ¬ 10 + i = 10 + k by omega)).symm
    · obtain ⟨b, eb⟩ := t
      exact ⟨b, by rw [if_neg (by omega)]; exact eb⟩
    · rw [if_neg (by omega)]; exact cR_0 g (by decide) C0 ff (by omega) hs
    · rw [if_neg (by omega)]; exact cR_0 g (by omega) (A i hi) ff (by omega) hs
    · rw [pw 0 10 (by omega) (by omega)]; exact syC_mvD S ff (fun _ _ _ _ _ _ z => z) (by omega) hs
    · exact imC_0 g hj (M j hj) ff (pw _ _ (by omega) (by omega)) (by omega) hs (if_neg (by omega))
theorem X_restore (x : Int32) (h : XR I J P K n tl tp f hd nm so c us bm row ask st wr tx sn im) (hF0 : (inB x 2 = false ∨ ∃ k, k < 2 ∧ x = nI k ∧ im k = none) → F 0 I J P K n) (hF : ∀ k q, k < 2 → x = nI k → im k = some q → ∀ I' J' P' K' n', XR I' J' P' K' n' tl tp f q.1.1 q.1.2.1 q.1.2.2 0 us bm row ask st wr tx q.2 im → stX I I' J J' P P' K K' n n' → F 1 I' J' P' K' n') : cqI G (d + 2) mX11_restore [.ref 0, .int x] I J P K n F := by
  obtain ⟨hX, hn, hL, cs, nx, hh⟩ := id h
  obtain ⟨lk, g, iI, t, C0, A, S, M⟩ := id hh
  have k0 : (K 0).1 = 11 := by rw [shX_K0 hX]
  have k30 : (K 30).1 = 16 := by rw [shX_K30 hX]
  have k31 : (K 31).1 = 17 := by rw [shX_K31 hX]
  refine bX11_restore_0 hX _ (rng6 (N := 2) (by decide) (fun e => ?_) (fun e => hF0 (Or.inl e)))
  obtain ⟨k, hk, rfl⟩ := inB_t e
  have v30 : vp_in (nI k) (K 30).2 := by rw [shX_K30 hX]; exact nI_inN hk (by decide)
  have v31 : vp_in (nI k) (K 31).2 := by rw [shX_K31 hX]; exact nI_inN hk (by decide)
  rw [nI_ck (by omega)]
  have Mk := M k hk
  cases ek : im k with
  | none =>
    rw [ek] at Mk
    have Mk : cs (10 + k) = none := Mk
    refine ⟨k30, v30, fun z ez => ?_, fun _ => hF0 (Or.inr ⟨k, hk, rfl, ek⟩)⟩
    rw [lk.2.2.2 k hk, Mk] at ez
    cases ez
  | some q =>
    rw [ek] at Mk
    obtain ⟨Ck, Sk⟩ := Mk
    obtain ⟨z, l, ez, oz, oL, Sz, L, N, C, w⟩ := cR_sC g (by omega) Ck
    obtain ⟨a, l0, e0, oa, oL0, Sa, -⟩ := cR_sC g (by decide) C0
    obtain ⟨oa1, oa2, oa3⟩ := oa
    obtain ⟨-, -, apz⟩ := g 0 a (by decide) e0
    have ap := apz (10 + k) z (by omega) (by omega) ez
    have apl := oL.2.2.2 0 a (by decide) e0
    obtain ⟨ol1, ol2, ol3, -⟩ := id oL
    refine ⟨k30, v30, fun z' ez' => ?_, fun ez' => ?_⟩
    · rw [lk.2.2.2 k hk, ez] at ez'
      cases ez'
      refine ⟨Sz.1, a, lk.1.trans e0, Sa.1, C_copyFrom Sa.1 Sz oa1 ap apl C L w (fun I1 r1 f1 => ?_)⟩
      have pz : ∀ x y, ¬ (x = a ∧ y = 0) → u2 P a 0 (some l) x y = P x y := fun x y q => by simp only [u2]; rw [if_neg q]
      have e31 : u2 P a 0 (some l) 31 k = P 31 k := pz _ _ (by omega)
      have fin : F 1 (u2 I1 0 13 0) J (u2 (u2 P a 0 (some l)) 0 10 (P 31 k)) K n := by
        have pw : ∀ x y, ¬ (x = 0 ∧ y = 10) → ¬ (x = a ∧ y = 0) → u2 (u2 P a 0 (some l)) 0 10 (P 31 k) x y = P x y := fun x y h1 h2 => by
          rw [← pz x y h2]
          generalize u2 P a 0 (some l) = P0
          simp only [u2]; rw [if_neg h1]
        have fw : ∀ x y, ¬ (x = 0 ∧ y = 13) → ¬ (a ≤ x ∧ x ≤ a + 24) → u2 I1 0 13 0 x y = I x y := fun x y h1 h2 => by
          rw [← f1 x y h2]
          simp only [u2]; rw [if_neg h1]
        have ff : fT a n I (u2 I1 0 13 0) J J P (u2 (u2 P a 0 (some l)) 0 10 (P 31 k)) K K := ⟨fun x y h1 _ q => ⟨fw x y (by omega) q, rfl⟩, fun x y h1 _ q => pw x y (by omega) q, fun _ _ => rfl⟩
        have hs := subC_rf n cs
        have hb : ∃ j, j < 12 ∧ cs j = some a := ⟨0, by omega, e0⟩
        refine hF k q hk rfl ek _ _ _ _ _ ⟨shX_of hX (fun x y hx _ _ _ _ h3 => pw x y (by omega) (by omega)) (fun _ _ => rfl), hn, XL_of hL (fun x y hx ns => fw x y (by unfold scr at ns; omega) (by omega)), cs, nx, ⟨?_, ?_, fun i hi => ?_, fun i hi => ?_⟩, geC_mv g ff.2.1 ff.2.2 hb (Nat.le_refl _), ⟨(fw _ _ (by decide) (by omega)).trans iI.1, iI.2.1, u2_s _ _ _ _, by omega⟩, t, ?_, fun i hi => by omega, ?_, fun j hj => imC_at g hj (by omega) (by omega) e0 (M j hj) ff (pw _ _ (by omega) (by omega)) (Nat.le_refl _) hs rfl⟩ ⟨fun x y h1 h2 => ⟨fw x y (by omega) (by omega), rfl, pw x y (by omega) (by omega)⟩, fun _ _ => rfl, Nat.le_refl _, by omega, by omega⟩
        · exact (pw _ _ (by decide) (by omega)).trans lk.1
        · exact (pw _ _ (by decide) (by omega)).trans lk.2.1
        · exact (pw _ _ (by omega) (by omega)).trans (lk.2.2.1 i hi)
        · exact (pw _ _ (by omega) (by omega)).trans (lk.2.2.2 i hi)
        · have ra : ∀ x y, a ≤ x → x ≤ a + 24 → u2 I1 0 13 0 x y = I1 x y := fun x y h1 h2 => u2_a _ _ _ _ (by omega)
          exact ⟨a, l, e0, by rw [u2_a _ _ _ _ (by omega), u2_s], shL_of Sz.2.2.1 (fun x y h1 h2 => pw x y (by omega) (by omega)) (fun _ _ _ => rfl), oL, rL_of L (fun x y h1 h2 => fw x y (by omega) (by omega)), N, rC_of r1 ra (wf_casks w), w⟩
        · rw [u2_s]; exact syC_mv Sk ff hb (Nat.le_refl _) hs
      refine ⟨k0, 31, (pz _ _ (by omega)).trans (shX_P0_15 hX), k31, v31, fun b15 eb => ⟨k0, k0, ?_⟩, fun eb => ⟨k0, k0, ?_⟩⟩
      · rw [e31] at eb; rw [← eb]; exact fin
      · rw [e31] at eb; rw [← eb]; exact fin
    · rw [lk.2.2.2 k hk, ez] at ez'
      cases ez'
end ResX
