/-! the class: the lines of a book -/
/-- what stands in a line of a book, told or old -/
def rgB (I : sI) (i : Nat) : Prop := (∃ s, s < 5 ∧ I 24 i = nI s) ∧ ∃ m, m < 4 ∧ I 25 i = nI m
def fB (lo hi i : Nat) (I I' : sI) (J J' : sJ) : Prop := (∀ c k, c ≠ 2 → ¬ (lo ≤ c ∧ c ≤ hi ∧ k = i) → I' c k = I c k) ∧ (∀ c k, ¬ (c = 2 ∧ k = 7) → J' c k = J c k) ∧ (rgB I i → rgB I' i)
theorem rgB_eq {I I' : sI} {i : Nat} (h : ∀ c, c = 24 ∨ c = 25 → I' c i = I c i) (r : rgB I i) : rgB I' i := by
  obtain ⟨⟨s, s1, s2⟩, m, m1, m2⟩ := r
  exact ⟨⟨s, s1, (h 24 (Or.inl rfl)).trans s2⟩, m, m1, (h 25 (Or.inr rfl)).trans m2⟩
def bP (lo hi i : Nat) (I0 : sI) (J0 : sJ) (sz lm : Nat) (tp : Nat → Nat) {α : Type} (Q : α → sI → Prop) (F : Int32 → sI → sJ → Prop) (r : pE (α × tokT)) : Prop := match r with
  | .error e => ∀ I' J', I' 2 9 = nI e.1 → I' 2 10 = nI e.2 → fB lo hi i I0 I' J0 J' → F 0 I' J'
  | .ok p => ∀ I' J', Q p.1 I' → rP6 I' J' sz lm tp p.2 → I' 2 9 = I0 2 9 → I' 2 10 = I0 2 10 → fB lo hi i I0 I' J0 J' → F 1 I' J'
theorem fB_9 {lo hi i : Nat} {I I' : sI} {J J' : sJ} (f : fr9 I I' J J') : fB lo hi i I I' J J' := ⟨fun c k h _ => f.1 c k (by omega), f.2, rgB_eq (fun c hc => f.1 c i (by omega))⟩
theorem fB_F {lo hi i : Nat} {I I' : sI} {J : sJ} (f : frF I I') : fB lo hi i I I' J J := ⟨fun c k h _ => f c k (by omega), fun _ _ _ => rfl, rgB_eq (fun c hc => f c i (by omega))⟩
theorem fB_tr {lo hi lo1 hi1 lo2 hi2 i : Nat} {I I' I2 : sI} {J J' J2 : sJ} (h : fB lo1 hi1 i I I' J J') (h2 : fB lo2 hi2 i I' I2 J' J2) (a : lo ≤ lo1 ∧ hi1 ≤ hi ∧ lo ≤ lo2 ∧ hi2 ≤ hi) : fB lo hi i I I2 J J2 := ⟨fun c k e n => (h2.1 c k e (by omega)).trans (h.1 c k e (by omega)), fun c k e => (h2.2.1 c k e).trans (h.2.1 c k e), fun r => h2.2.2 (h.2.2 r)⟩
theorem fB_u {lo hi i x : Nat} {v : Int32} {I I' : sI} {J J' : sJ} (h : fB lo hi i I I' J J') (hx : lo ≤ x ∧ x ≤ hi) (h24 : x = 24 → ∃ s, s < 5 ∧ v = nI s) (h25 : x = 25 → ∃ m, m < 4 ∧ v = nI m) : fB lo hi i I (u2 I' x i v) J J' := by
  refine ⟨fun c k e n => by simp only [u2]; rw [if_neg (by omega)]; exact h.1 c k e n, h.2.1, fun r => ?_⟩
  obtain ⟨⟨s, s1, s2⟩, m, m1, m2⟩ := h.2.2 r
  refine ⟨?_, ?_⟩
  · by_cases e : x = 24
    · obtain ⟨s', a1, a2⟩ := h24 e
      exact ⟨s', a1, by rw [e, u2_s]; exact a2⟩
    · exact ⟨s, s1, by rw [u2_a _ _ _ _ (by omega)]; exact s2⟩
  · by_cases e : x = 25
    · obtain ⟨m', a1, a2⟩ := h25 e
      exact ⟨m', a1, by rw [e, u2_s]; exact a2⟩
    · exact ⟨m, m1, by rw [u2_a _ _ _ _ (by omega)]; exact m2⟩
section Bk6
variable {G : gG} {d : Nat} {I I0 : sI} {J J0 : sJ} {P : sP} {K : sK} {n : Nat} {F : Int32 → sI → sJ → Prop} {FV : sI → sJ → Prop} {sz lm : Nat} {tp : Nat → Nat} {t : tokT} {hd : Nat → Nat} {nm : Nat → List Nat} {l i : Nat}
/-- what reading a book needs of its layout -/
def lyB (P : sP) (K : sK) (I : sI) (J : sJ) (l : Nat) (hd : Nat → Nat) (nm : Nat → List Nat) : Prop := shL P K l ∧ 34 < l ∧ I l 0 = nI (hd 0) ∧ hd 0 ≤ 5 ∧ rLN J l hd nm
theorem lyB_f {lo hi : Nat} {I' : sI} {J' : sJ} (h : lyB P K I J l hd nm) (f : fB lo hi i I I' J J') (hh : hi ≤ 28) : lyB P K I' J' l hd nm := by
  obtain ⟨h1, h2, h3, h4, h5⟩ := h
  exact ⟨h1, h2, (f.1 _ _ (by omega) (by omega)).trans h3, h4, fun s hs => ⟨(f.2.1 _ _ (by omega)).trans (h5 s hs).1, (h5 s hs).2⟩⟩
theorem C_bScale {x : Nat} (hx : x = 24 ∨ x = 26) (kx : K x = (13, 40)) (hX : shX P K) (hP : P 2 0 = some 1) (Y : lyB P K I J l hd nm) (R : rP6 I J sz lm tp t) (hi : I 22 6 = nI i) (h4 : i < 40) (h : bP x x i I J sz lm tp (fun s I' => I' x i = nI s) F (pSc (nxT tp sz lm) hd nm t)) : ckI G (d + 7) mX0_readScale [.ref 22, .ref 2, .ref l, .ref x] I J P K n F := by
  obtain ⟨Y1, Y2, Y3, Y4, Y5⟩ := Y
  unfold pSc at h
  refine bX0_readScale_0 hX _ _ (C_takeScale Y1 (by omega) Y3 Y4 Y5 hX hP R (fun en I' g1 g2 g3 => br_t rfl ?_) (fun en nn I' g1 g2 g3 => br_t rfl ?_) (fun en s es I4 J4 R4 g1 g2 => br_f (by decide) ⟨by rw [kx], ?_, ?_⟩))
  · rw [if_pos en] at h
    exact h I' J (by rw [g1]; show _ = nI (fau _ 1); rw [fau_1]; rfl) g2 (fB_F g3)
  · rw [if_neg (by rw [en]; decide), nn] at h
    exact h I' J (by rw [g1]; show _ = nI (fau _ 3); rw [fau_2 (isN_2 en)]; rfl) g2 (fB_F g3)
  · rw [kx, g2.1 22 6 (by omega), hi]
    exact nI_inN h4 (by decide)
  · rw [if_neg (by rw [en]; decide), es] at h
    rw [g2.1 22 6 (by omega), hi, nI_ck (by omega), g1]
    exact h _ _ (u2_s _ _ _ _) (rP6_o R4 _ (by omega)) ((u2_a _ _ _ _ (by omega)).trans (g2.1 2 9 (by omega))) ((u2_a _ _ _ _ (by omega)).trans (g2.1 2 10 (by omega))) (fB_u (fB_9 g2) (by omega) (fun _ => ⟨s, by have := (fndN_lt es).2.1; omega, rfl⟩) (fun z => by omega))
theorem C_bCask {x : Nat} (hx : x = 24 ∨ x = 26) (kx : K x = (13, 40)) (ky : K (x + 1) = (13, 40)) (hX : shX P K) (hP : P 2 0 = some 1) (Y : lyB P K I J l hd nm) (R : rP6 I J sz lm tp t) (hi : I 22 6 = nI i) (h4 : i < 40) (h : bP x (x + 1) i I J sz lm tp (fun q I' => I' x i = nI q.1 ∧ I' (x + 1) i = nI q.2) F (pCk (nxT tp sz lm) hd nm t)) : ckI G (d + 8) mX0_readCask [.ref 22, .ref 2, .ref l, .ref x, .ref (x + 1)] I J P K n F := by
  unfold pCk at h
  refine bX0_readCask_0 hX _ _ _ (C_bScale hx kx hX hP Y R hi h4 ?_)
  cases e : pSc (nxT tp sz lm) hd nm t with
  | error er =>
    rw [e] at h
    exact fun I' J' g1 g2 g3 => br_t rfl (h I' J' g1 g2 (fB_tr g3 (fB_9 ⟨fun _ _ _ => rfl, fun _ _ _ => rfl⟩ : fB x x i I' I' J' J') (by omega)))
  | ok p =>
    rw [e] at h
    dsimp only at h
    intro I1 J1 q1 R1 q9 q10 f1
    refine br_f (by decide) (C_takeNumber (d := d + 1) (a := 0) (b := 3) (by decide) (by decide) hX hP R1 (fun e1 I' g1 g2 g3 => br_t rfl ?_) (fun e1 I2 J2 R2 g1 g2 => br_f (by decide) ⟨by rw [ky], ?_, ?_⟩))
    · rw [rdN_bad e1] at h
      exact h I' J1 g1 g2 (fB_tr f1 (fB_F g3 : fB x x i I1 I' J1 J1) (by omega))
    · rw [ky, g2.1 22 6 (by omega), f1.1 22 6 (by decide) (by omega), hi]
      exact nI_inN h4 (by decide)
    · rw [rdN_ok e1] at h
      rw [g2.1 22 6 (by omega), f1.1 22 6 (by decide) (by omega), hi, nI_ck (by omega), g1]
      refine h _ _ ⟨?_, u2_s _ _ _ _⟩ (rP6_o R2 _ (by omega)) ?_ ?_ (fB_u (fB_tr f1 (fB_9 g2 : fB x x i I1 I2 J1 J2) (by omega)) (by omega) (fun z => by omega) (fun _ => ⟨_, by have := (eN_range e1).2.2; omega, rfl⟩))
      · rw [u2_a _ _ _ _ (by omega), g2.1 _ _ (by omega)]; exact q1
      · rw [u2_a _ _ _ _ (by omega), g2.1 _ _ (by omega)]; exact q9
      · rw [u2_a _ _ _ _ (by omega), g2.1 _ _ (by omega)]; exact q10
theorem C_bAmt {b : Nat} (hb : b < 1000) (hX : shX P K) (hP : P 2 0 = some 1) (R : rP6 I J sz lm tp t) (hi : I 22 6 = nI i) (h4 : i < 40) (h : bP 28 28 i I J sz lm tp (fun z I' => I' 28 i = nI z) F (rdN (nxT tp sz lm) t 1 b)) : ckI G (d + 7) mX0_readAmount [.ref 22, .ref 2, .int (nI b)] I J P K n F := by
  refine bX0_readAmount_0 hX _ (C_takeNumber (a := 1) (b := b) (by decide) (by omega) hX hP R (fun e1 I' g1 g2 g3 => br_t rfl ?_) (fun e1 I2 J2 R2 g1 g2 => br_f (by decide) ⟨?_, ?_⟩))
  · rw [rdN_bad e1] at h
    exact h I' J g1 g2 (fB_F g3)
  · rw [g2.1 22 6 (by omega), hi]
    exact nI_inN h4 (by decide)
  · rw [rdN_ok e1] at h
    rw [g2.1 22 6 (by omega), hi, nI_ck (by omega), g1]
    exact h _ _ (u2_s _ _ _ _) (rP6_o R2 _ (by omega)) ((u2_a _ _ _ _ (by omega)).trans (g2.1 2 9 (by omega))) ((u2_a _ _ _ _ (by omega)).trans (g2.1 2 10 (by omega))) (fB_u (fB_9 g2) (by omega) (fun z => by omega) (fun z => by omega))
/-- line i of a book -/
def rB6 (I : sI) (i : Nat) (b : bL) : Prop := I 23 i = nI (b.1 + 5) ∧ (b.1 = 0 ∨ b.1 = 1 ∨ b.1 = 3 → I 24 i = nI b.2.1) ∧ (b.1 = 0 ∨ b.1 = 3 → I 25 i = nI b.2.2.1 ∧ I 28 i = nI b.2.2.2.2.2) ∧ (b.1 = 3 → I 26 i = nI b.2.2.2.1 ∧ I 27 i = nI b.2.2.2.2.1) ∧ (b.1 = 4 → I 28 i = nI b.2.2.2.2.2)
end Bk6
