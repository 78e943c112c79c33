/-! the class: the trial is copied, an act is kept, undone -/
section KeepA
variable {G : gG} {d : Nat} {I I' : sI} {J J' : sJ} {P P' : sP} {K K' : sK} {n n' : Nat} {cs cs' : Nat → Option Nat} {hd so : Nat → Nat} {nm : Nat → List Nat} {a b : Nat} {c nx : Nat} {us : Nat → Nat → Nat} {sn : Option (List itT)} {im : Nat → Option imT}
theorem X_copy {F : sI → sJ → sP → sK → Nat → Prop} (h : XHc cs nx I J P K n hd nm so c us sn im) (e1 : cs 1 = some b) (e0 : cs 0 = some a) (hF : ∀ I' l, XHt cs nx b so I' J (u2 P b 0 (some l)) K n hd nm so c us sn im → (∀ x k, ¬ (b ≤ x ∧ x ≤ b + 24) → I' x k = I x k) → 34 < b → (b + 24 < 91 ∨ 116 < b) → F I' J (u2 P b 0 (some l)) K n) : cqV G (d + 1) mX1_copyFrom [.ref b, .ref a] I J P K n F := by
  obtain ⟨a', l, p8, e0', oa, oL, S, L, N, C, w⟩ := XH_sC h
  rw [e0] at e0'
  cases e0'
  obtain ⟨sb, ob, apb⟩ := h.2.1 1 b (by decide) e1
  have ap := apb 0 a (by decide) (by decide) e0
  have apl := oL.2.2.2 1 b (by decide) e1
  obtain ⟨o1, o2, o3, -⟩ := id oL
  obtain ⟨b1, b2, b3⟩ := id ob
  refine C_copyFrom sb S b1 ap apl C L w (fun I' r f => hF I' l ⟨XHc_mv h e1 ⟨fun x k _ _ q => ⟨f x k q, rfl⟩, fun x k _ _ q => by simp only [u2]; rw [if_neg q], fun _ _ => rfl⟩ (fun x k hx _ => u2_a _ _ _ _ (by omega)) (f _ _ (by omega)) (f _ _ (by omega)) (Nat.le_refl _), e1, b, l, rfl, u2_s _ _ _ _, shL_of S.2.2.1 (fun x k h1 h2 => u2_a _ _ _ _ (by omega)) (fun _ _ _ => rfl), oL, rL_of L (fun x k h1 h2 => f x k (by omega)), N, r, w⟩ f b1 b2)
def sgK (nx i : Nat) : Nat := if i = 0 then 1 else if i = 1 then 2 + nx else if i = 2 + nx then 0 else i
theorem sgK_lt {nx i : Nat} (h : nx < 8) (hi : i < 12) : sgK nx i < 12 := by unfold sgK; split; omega; split; omega; split; omega; omega
theorem sgK_inj {nx i j : Nat} (h : nx < 8) (hi : i < 12) (hj : j < 12) (ij : j ≠ i) : sgK nx j ≠ sgK nx i := by
  unfold sgK
  (repeat' split) <;> omega
theorem fD_0 (f : ∀ x k, 34 < x → x < n → I' x k = I x k ∧ J' x k = J x k ∧ P' x k = P x k) (fK : ∀ x, x < n → K' x = K x) : fD (fun _ => False) n I I' J J' P P' K K' := ⟨fun x k h1 h2 _ => f x k h1 h2, fK⟩
theorem cR_0 {i : Nat} {hd so : Nat → Nat} {nm : Nat → List Nat} (g : geC P K n cs) (hi : i < 12) (h : cR I J P K n cs (cs i) hd nm so) (f : fD (fun _ => False) n I I' J J' P P' K K') (hn : n ≤ n') (hs : subC n cs cs') : cR I' J' P' K' n' cs' (cs i) hd nm so := by
  obtain ⟨a, l, e, q⟩ := h
  rw [e]
  exact cR_mvD ⟨a, l, rfl, q⟩ (g i a hi e).2.1 f (fun _ _ _ z => z) (fun _ _ _ _ _ _ z => z) hn hs
theorem imC_0 {k : Nat} {q : Option imT} (g : geC P K n cs) (hk : k < 2) (h : imC I J P K n cs k q) (f : fD (fun _ => False) n I I' J J' P P' K K') (h31 : P' 31 k = P 31 k) (hn : n ≤ n') (hs : subC n cs cs') (ec : cs' (10 + k) = cs (10 + k)) : imC I' J' P' K' n' cs' k q := by
  cases q with
  | none => exact ec.trans h
  | some q =>
    obtain ⟨h1, h2⟩ := h
    refine ⟨?_, ?_⟩
    · rw [ec]; exact cR_0 g (by omega) h1 f hn hs
    · rw [h31]; exact syC_mvD h2 f (fun _ _ _ _ _ _ z => z) hn hs
theorem geC_P (h : geC P K n cs) (f : ∀ x k, 34 < x → x < n → P' x k = P x k) : geC P' K n cs := by
  intro i a hi e
  obtain ⟨s, ⟨a1, a2, a3⟩, ap⟩ := h i a hi e
  exact ⟨shC_of s (fun x k h1 h2 _ => f x k (by omega) (by omega)) (fun _ _ _ => rfl), ⟨a1, a2, a3⟩, ap⟩
/-- the cellars change places: an act is kept -/
theorem XHk {sx : Nat → Nat} {b1 : Nat} (g : geC P K n cs) (hnx : nx < 8) (hc : c ≤ 8) (C0 : cR I J P K n cs (cs 0) hd nm so) (A : ∀ i, i < c → i < 7 → cR I J P K n cs (cs (2 + (nx + 7 - i) % 8)) hd nm (us i)) (S : syC I P K n cs (P 0 10) sn) (M : ∀ k, k < 2 → imC I J P K n cs k (im k)) (e1 : cs 1 = some b) (T : cR I J P K n cs (some b) hd nm sx) (e2 : cs (2 + nx) = some b1) (j12 : I' 0 12 = nI ((nx + 1) % 8)) (j13 : I' 0 13 = nI (inc8 c)) (jI : ∀ x k, 34 < x → x < n → I' x k = I x k) (p8 : P' 0 8 = some b) (p9 : P' 0 9 = some b1) (p29 : P' 29 nx = cs 0) (p29' : ∀ i, i < 8 → i ≠ nx → P' 29 i = cs (2 + i)) (p30 : ∀ i, i < 2 → P' 30 i = cs (10 + i)) (p10 : P' 0 10 = P 0 10) (p31 : ∀ k, P' 31 k = P 31 k) (jP : ∀ x k, 34 < x → x < n → P' x k = P x k) : XHc (fun i => cs (sgK nx i)) ((nx + 1) % 8) I' J P' K n hd nm sx (inc8 c) (psh us so) sn im := by
  have s0 : sgK nx 0 = 1 := rfl
  have s1 : sgK nx 1 = 2 + nx := rfl
  have s2 : sgK nx (2 + nx) = 0 := by unfold sgK; rw [if_neg (by omega), if_neg (by omega), if_pos rfl]
  have s3 : ∀ i, 2 ≤ i → i ≠ 2 + nx → sgK nx i = i := fun i h1 h2 => by unfold sgK; rw [if_neg (by omega), if_neg (by omega), if_neg h2]
  have f : fD (fun _ => False) n I I' J J P P' K K := fD_0 (fun x k h1 h2 => ⟨jI x k h1 h2, rfl, jP x k h1 h2⟩) (fun _ _ => rfl)
  have hs : subC n cs (fun i => cs (sgK nx i)) := fun i z hi e => Or.inl ⟨sgK nx i, sgK_lt hnx hi, e⟩
  have hi8 : inc8 c ≤ 8 := by unfold inc8; split <;> omega
  refine ⟨⟨?_, ?_, fun i hi => ?_, fun i hi => ?_⟩, geC_perm (sgK nx) (fun i hi => sgK_lt hnx hi) (fun i j hi hj ij => sgK_inj hnx hi hj ij) (fun _ _ => rfl) (geC_P g jP), ⟨j12, by omega, j13, hi8⟩, ⟨b1, ?_⟩, ?_, fun i hi => ?_, ?_, fun k hk => ?_⟩
  · show P' 0 8 = cs (sgK nx 0); rw [s0, e1]; exact p8
  · show P' 0 9 = cs (sgK nx 1); rw [s1, e2]; exact p9
  · show P' 29 i = cs (sgK nx (2 + i))
    by_cases q : i = nx
    · subst q; rw [s2]; exact p29
    · rw [s3 _ (by omega) (by omega)]; exact p29' i hi q
  · show P' 30 i = cs (sgK nx (10 + i))
    rw [s3 _ (by omega) (by omega)]; exact p30 i hi
  · show cs (sgK nx 1) = some b1; rw [s1]; exact e2
  · show cR I' J P' K n _ (cs (sgK nx 0)) hd nm sx
    rw [s0]
    rw [← e1] at T
    exact cR_0 g (by decide) T f (Nat.le_refl _) hs
  · show cR I' J P' K n _ (cs (sgK nx (2 + ((nx + 1) % 8 + 7 - i) % 8))) hd nm (psh us so i)
    cases i with
    | zero =>
      rw [show 2 + ((nx + 1) % 8 + 7 - 0) % 8 = 2 + nx by omega, s2]
      exact cR_0 g (by decide) C0 f (Nat.le_refl _) hs
    | succ i =>
      have h7 : i < 7 := by omega
      have hic : i < c := by
        unfold inc8 at hi
        split at hi <;> omega
      rw [show 2 + ((nx + 1) % 8 + 7 - (i + 1)) % 8 = 2 + (nx + 7 - i) % 8 by omega, s3 _ (by omega) (by omega)]
      exact cR_0 g (by omega) (A i hic h7) f (Nat.le_refl _) hs
  · rw [p10]; exact syC_mvD S f (fun _ _ _ _ _ _ z => z) (Nat.le_refl _) hs
  · exact imC_0 g hk (M k hk) f (p31 k) (Nat.le_refl _) hs (by show cs (sgK nx (10 + k)) = _; rw [s3 _ (by omega) (by omega)])
/-- what keeping an act leaves -/
def kpA (I I' : sI) (J J' : sJ) (P P' : sP) (K K' : sK) (n n' : Nat) : Prop := (∀ x k, x < n → ¬ (x = 0 ∧ (k = 12 ∨ k = 13)) → I' x k = I x k) ∧ (∀ x k, x < n → J' x k = J x k) ∧ (∀ x k, x < n → x ≠ 0 → x ≠ 29 → P' x k = P x k) ∧ (∀ x, x < n → K' x = K x) ∧ n ≤ n' ∧ n' ≤ n + 25 ∧ gS K' n' ≤ gS K n + 908
theorem X_keepAct {F : sI → sJ → sP → sK → Nat → Prop} {sx : Nat → Nat} (hX : shX P K) (hn : 116 < n) (bn : n + 25 ≤ 601024) (bS : gS K n + 908 ≤ 7293034) (h : XHt cs nx b sx I J P K n hd nm so c us sn im) (hF : ∀ I' J' P' K' n', shX P' K' → XH I' J' P' K' n' hd nm sx (inc8 c) (psh us so) sn im → kpA I I' J J' P P' K K' n n' → F I' J' P' K' n') : cqV G (d + 2) mX11_keepAct [.ref 0] I J P K n F := by
  obtain ⟨pb9, ob, l, oL, Sb, -⟩ := XHt_sC h
  obtain ⟨⟨lk, g, ⟨i12, hnx, i13, hc⟩, -, C0, A, S, M⟩, e1, T⟩ := h
  obtain ⟨a, l0, e0, -⟩ := id C0
  have k29 : (K 29).1 = 16 := by rw [shX_K29 hX]
  have v : vp_in (I 0 12) (K 29).2 := by rw [i12, shX_K29 hX]; exact nI_inN hnx (by decide)
  have ck : (I 0 12).toNatClampNeg = nx := by rw [i12, nI_ck (by omega)]
  have k0 : (K 0).1 = 11 := by rw [shX_K0 hX]
  have sa := (g 0 a (by decide) e0).1
  have oa := (g 0 a (by decide) e0).2.1
  have ka : (K a).1 = 1 := by rw [shC_K sa]
  have nxt : I 0 12 + 1 - (I 0 12 + 1) / 8 * 8 = nI ((nx + 1) % 8) := by rw [i12, nI_1]; exact i_rem (by omega) (b := 8) (by decide) (by decide)
  have ob1 := ob.1
  have ob3 := ob.2.2
  have oa1 := oa.1
  obtain ⟨ol1, ol2, ol3, -⟩ := id oL
  refine bX11_keepAct_0 hX ⟨k29, v, fun b1 eb => ?_, fun eb => ?_⟩
  · rw [ck, lk.2.2.1 nx hnx] at eb
    refine ⟨(g _ b1 (by omega) eb).1, a, lk.1.trans e0, sa, k29, v, ka, k0, b, pb9, k0, k0, k0, k0, k0, ?_⟩
    rw [nxt, ck, i13]
    have fin : ∀ I2, I2 0 12 = nI ((nx + 1) % 8) → I2 0 13 = nI (inc8 c) → (∀ x k, ¬ (x = 0 ∧ (k = 12 ∨ k = 13)) → I2 x k = I x k) → F I2 J (u2 (u2 (u2 P 29 nx (some a)) 0 8 (some b)) 0 9 (some b1)) K n := by
      intro I2 q1 q2 q3
      have w : ∀ x k, x ≠ 0 → x ≠ 29 → u2 (u2 (u2 P 29 nx (some a)) 0 8 (some b)) 0 9 (some b1) x k = P x k := fun x k h1 h2 => by rw [u2_a _ _ _ _ h1, u2_a _ _ _ _ h1, u2_a _ _ _ _ h2]
      refine hF _ _ _ _ _ (shX_of hX (fun x k _ _ h2 _ _ h3 => ?_) (fun _ _ => rfl)) ⟨_, _, XHk g hnx hc C0 (fun i h1 _ => A i h1) S M e1 T eb q1 q2 (fun x k h1 _ => q3 x k (by omega)) ?_ (u2_s _ _ _ _) ?_ (fun i hi ne => ?_) (fun i hi => ?_) ?_ (fun k => w _ _ (by decide) (by decide)) (fun x k h1 _ => w x k (by omega) (by omega))⟩ ⟨fun x k _ q => q3 x k q, fun _ _ _ => rfl, fun x k _ h1 h2 => w x k h1 h2, fun _ _ => rfl, Nat.le_refl _, by omega, by omega⟩
      · by_cases x0 : x = 0
        · subst x0
          rw [u2_k _ _ _ _ (by omega), u2_k _ _ _ _ (by omega), u2_a _ _ _ _ (by decide)]
        · exact w x k x0 h2
      · rw [u2_k _ _ _ _ (by decide), u2_s]
      · rw [u2_a _ _ _ _ (by decide), u2_a _ _ _ _ (by decide), u2_s, e0]
      · rw [u2_a _ _ _ _ (by decide), u2_a _ _ _ _ (by decide), u2_k _ _ _ _ ne]; exact lk.2.2.1 i hi
      · rw [w _ _ (by decide) (by decide)]; exact lk.2.2.2 i hi
      · rw [u2_k _ _ _ _ (by decide), u2_k _ _ _ _ (by decide), u2_a _ _ _ _ (by decide)]
    by_cases q : c = 8
    · refine br_t (by rw [q]; decide) (fin _ (u2_s _ _ _ _) ?_ (fun x k z => ?_))
      · rw [u2_k _ _ _ _ (by decide), i13, q]; rfl
      · simp only [u2]; rw [if_neg (by omega)]
    · refine br_f (nI_ge (b := 8) (by omega) (by omega)) ⟨k0, k0, fin _ ?_ ?_ (fun x k z => ?_)⟩
      · rw [u2_k _ _ _ _ (by decide), u2_s]
      · rw [u2_s, nI_1]; unfold inc8; rw [if_neg q]
      · simp only [u2]; rw [if_neg (by omega), if_neg (by omega)]
  · rw [ck, lk.2.2.1 nx hnx] at eb
    have ul : ∀ x, x < n → u1 K n (1, 8) x = K x := fun x hx => u1_a _ _ (by omega)
    have P1b : z2 (u2 (u2 P 29 ((I 0 12).toNatClampNeg) (some a)) 0 8 (some b)) n none b 0 = some l := by
      rw [z2_a _ _ _ (by omega), u2_a _ _ _ _ (by omega), u2_a _ _ _ _ (by omega)]; exact Sb.2.1
    refine ⟨a, lk.1.trans e0, sa, k29, v, ka, k0, b, pb9, k0, by omega, by omega, by rw [ul 0 (by omega)]; exact k0, b, ?_, by rw [ul b (by omega), shC_K Sb.1], l, P1b, C_newC rfl (by omega) (u1_s _ _ _) (by rw [ul l (by omega), shL_K Sb.2.2.1]) (by omega) (by rw [gS_new]; omega) (fun I2 J2 P2 K2 sn2 _ _ _ _ _ fr fK fS => ?_)⟩
    · rw [z2_a _ _ _ (by omega), u2_s]
    · have fI : ∀ x k, x < n → I2 x k = I x k := fun x k hx => (fr x k hx).1.trans (z2_a _ _ _ (by omega))
      have fJ : ∀ x k, x < n → J2 x k = J x k := fun x k hx => (fr x k hx).2.1.trans (z2_a _ _ _ (by omega))
      have fP : ∀ x k, x < n → x ≠ 0 → x ≠ 29 → P2 x k = P x k := fun x k hx h0 h9 => (fr x k hx).2.2.trans (by rw [z2_a _ _ _ (by omega), u2_a _ _ _ _ h0, u2_a _ _ _ _ h9])
      have fK' : ∀ x, x < n → K2 x = K x := fun x hx => (fK x (by omega)).trans (ul x hx)
      have kk0 : (K2 0).1 = 11 := by rw [fK' 0 (by omega)]; exact k0
      refine ⟨kk0, kk0, kk0, kk0, ?_⟩
      rw [fI 0 12 (by omega), fI 0 13 (by omega), nxt, i13]
      have fin : ∀ I3, I3 0 12 = nI ((nx + 1) % 8) → I3 0 13 = nI (inc8 c) → (∀ x k, x < n → ¬ (x = 0 ∧ (k = 12 ∨ k = 13)) → I3 x k = I x k) → F I3 J2 (u2 P2 0 9 (some n)) K2 (n + 1 + 24) := by
        intro I3 q1 q2 q3
        have w : ∀ x k, x < n → x ≠ 0 → x ≠ 29 → u2 P2 0 9 (some n) x k = P x k := fun x k hx h1 h2 => by rw [u2_a _ _ _ _ h1]; exact fP x k hx h1 h2
        have g2 : geC P2 K2 (n + 1 + 24) (fun i => if i = 2 + nx then some n else cs i) := geC_new g hn sn2 (fun x k h1 h2 => fP x k h2 (by omega) (by omega)) fK'
        have hs : subC n cs (fun i => if i = 2 + nx then some n else cs i) := by
          intro i z hi e
          simp only at e
          by_cases q : i = 2 + nx
          · rw [if_pos q] at e; cases e; exact Or.inr (Nat.le_refl _)
          · rw [if_neg q] at e; exact Or.inl ⟨i, hi, e⟩
        have ff : fD (fun _ => False) n I I3 J J2 P P2 K K2 := fD_0 (fun x k h1 h2 => ⟨q3 x k h2 (by omega), fJ x k h2, fP x k h2 (by omega) (by omega)⟩) fK'
        have c0 : ∀ i, i ≠ 2 + nx → (fun i => if i = 2 + nx then some n else cs i) i = cs i := fun i q => if_neg q
        have P210 : P2 0 10 = P 0 10 := (fr 0 10 (by omega)).2.2.trans (by rw [z2_a _ _ _ (by omega), u2_k _ _ _ _ (by decide), u2_a _ _ _ _ (by decide)])
        refine hF _ _ _ _ _ (shX_of hX (fun x k x34 _ h2 _ _ h3 => ?_) (fun x hx => fK' x (by omega))) ⟨_, _, XHk (I := I3) (J := J2) (P := P2) (K := K2) (n := n + 1 + 24) (cs := fun i => if i = 2 + nx then some n else cs i) (so := so) (us := us) (b := b) (b1 := n) g2 hnx hc ?_ (fun i h1 h7 => ?_) ?_ (fun k hk => ?_) ?_ ?_ (if_pos rfl) q1 q2 (fun _ _ _ _ => rfl) ?_ (u2_s _ _ _ _) ?_ (fun i hi ne => ?_) (fun i hi => ?_) (u2_k _ _ _ _ (by decide)) (fun k => u2_a _ _ _ _ (by decide)) (fun x k h1 _ => u2_a _ _ _ _ (by omega))⟩ ⟨q3, fJ, w, fK', by omega, by omega, ?_⟩
        · by_cases x0 : x = 0
          · subst x0
            rw [u2_k _ _ _ _ (by omega)]
            exact (fr 0 k (by omega)).2.2.trans (by rw [z2_a _ _ _ (by omega), u2_k _ _ _ _ (by omega), u2_a _ _ _ _ (by decide)])
          · exact w x k (by omega) x0 h2
        · rw [if_neg (by omega)]; exact cR_0 g (by decide) C0 ff (by omega) hs
        · rw [if_neg (by omega)]; exact cR_0 g (by omega) (A i h1) ff (by omega) hs
        · rw [P210]; exact syC_mvD S ff (fun _ _ _ _ _ _ z => z) (by omega) hs
        · exact imC_0 g hk (M k hk) ff (fP _ _ (by omega) (by decide) (by decide)) (by omega) hs (c0 _ (by omega))
        · rw [if_neg (by omega)]; exact e1
        · rw [← e1] at T ⊢
          exact cR_0 g (by decide) T ff (by omega) hs
        · rw [u2_k _ _ _ _ (by decide)]
          exact (fr 0 8 (by omega)).2.2.trans (by rw [z2_a _ _ _ (by omega), u2_s])
        · rw [u2_a _ _ _ _ (by decide), if_neg (by omega), e0]
          exact (fr 29 nx (by omega)).2.2.trans (by rw [z2_a _ _ _ (by omega), u2_a _ _ _ _ (by decide), ck, u2_s])
        · rw [u2_a _ _ _ _ (by decide), if_neg (by omega)]
          exact (fr 29 i (by omega)).2.2.trans (by rw [z2_a _ _ _ (by omega), u2_a _ _ _ _ (by decide), ck, u2_k _ _ _ _ ne]; exact lk.2.2.1 i hi)
        · rw [u2_a _ _ _ _ (by decide), if_neg (by omega), fP _ _ (by omega) (by decide) (by decide)]; exact lk.2.2.2 i hi
        · have := fS
          rw [gS_new] at this
          omega
      by_cases q : c = 8
      · refine br_t (by rw [q]; decide) (fin _ (u2_s _ _ _ _) ?_ (fun x k hx z => ?_))
        · rw [u2_k _ _ _ _ (by decide), fI 0 13 (by omega), i13, q]; rfl
        · simp only [u2]; rw [if_neg (by omega)]; exact fI x k hx
      · refine br_f (nI_ge (b := 8) (by omega) (by omega)) ⟨kk0, kk0, fin _ ?_ ?_ (fun x k hx z => ?_)⟩
        · rw [u2_k _ _ _ _ (by decide), u2_s]
        · rw [u2_s, nI_1]; unfold inc8; rw [if_neg q]
        · simp only [u2]; rw [if_neg (by omega), if_neg (by omega)]; exact fI x k hx
theorem X_settle {F : Int32 → sI → sJ → sP → sK → Nat → Prop} {sx : Nat → Nat} {y : Nat} (hy : y < 1000) (hX : shX P K) (hn : 116 < n) (bn : n + 25 ≤ 601024) (bS : gS K n + 908 ≤ 7293034) (h : XHt cs nx b sx I J P K n hd nm so c us sn im) (hs : y ≠ 0 → sx = so) (hF : ∀ I' J' P' K' n', shX P' K' → XH I' J' P' K' n' hd nm sx (psC (decide (y = 0)) c) (psU (decide (y = 0)) us so) sn im → kpA I I' J J' P P' K K' n n' → F (nI y) I' J' P' K' n') : cqI G (d + 3) mX11_settle [.ref 0, .int (nI y)] I J P K n F := by
  refine bX11_settle_0 hX _ ⟨fun z => ?_, fun z => ?_⟩
  · have y0 : y = 0 := (nI_eq (by omega) (b := 0) (by decide)).mp z
    refine X_keepAct hX hn bn bS h (fun I' J' P' K' n' a1 a2 a3 => hF _ _ _ _ _ a1 ?_ a3)
    unfold psC psU
    rw [y0]
    exact a2
  · have y0 : y ≠ 0 := fun q => z (by rw [q]; rfl)
    refine hF _ _ _ _ _ hX ?_ ⟨fun _ _ _ _ => rfl, fun _ _ _ => rfl, fun _ _ _ _ _ => rfl, fun _ _ => rfl, Nat.le_refl _, by omega, by omega⟩
    unfold psC psU
    rw [if_neg (by simpa using y0), if_neg (by simpa using y0), hs y0]
    exact ⟨cs, nx, h.1⟩
end KeepA
