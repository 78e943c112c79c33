/-! the class: its state, the cellars of it -/
def outC (n : Nat) (cs : Nat → Option Nat) (x m : Nat) : Prop := 34 < x ∧ (x + m < 91 ∨ 116 < x) ∧ x + m < n ∧ ∀ i b, i < 12 → cs i = some b → x + m < b ∨ b + 24 < x
def okA (n a : Nat) : Prop := 34 < a ∧ (a + 24 < 91 ∨ 116 < a) ∧ a + 24 < n
def lkC (P : sP) (cs : Nat → Option Nat) : Prop := P 0 8 = cs 0 ∧ P 0 9 = cs 1 ∧ (∀ i, i < 8 → P 29 i = cs (2 + i)) ∧ ∀ i, i < 2 → P 30 i = cs (10 + i)
def geC (P : sP) (K : sK) (n : Nat) (cs : Nat → Option Nat) : Prop := ∀ i a, i < 12 → cs i = some a → shC P K a ∧ okA n a ∧ ∀ j b, j < 12 → j ≠ i → cs j = some b → a + 24 < b ∨ b + 24 < a
def cR (I : sI) (J : sJ) (P : sP) (K : sK) (n : Nat) (cs : Nat → Option Nat) (o : Option Nat) (hd : Nat → Nat) (nm : Nat → List Nat) (so : Nat → Nat) : Prop := ∃ a l, o = some a ∧ P a 0 = some l ∧ shL P K l ∧ outC n cs l 5 ∧ rL I l hd ∧ rLN J l hd nm ∧ rC I a hd so ∧ wf hd so
def syC (I : sI) (P : sP) (K : sK) (n : Nat) (cs : Nat → Option Nat) (o : Option Nat) (sn : Option (List itT)) : Prop := match sn with
  | none => o = none
  | some L => ∃ s, o = some s ∧ shN P K s ∧ outC n cs s 3 ∧ rN6 I s L ∧ L.length ≤ 40 ∧ pl L ≤ 20 ∧ ∀ i, i < L.length → okIt (L.getD i it0)
abbrev imT := ((Nat → Nat) × (Nat → List Nat) × (Nat → Nat)) × Option (List itT)
def imC (I : sI) (J : sJ) (P : sP) (K : sK) (n : Nat) (cs : Nat → Option Nat) (k : Nat) (q : Option imT) : Prop := match q with
  | none => cs (10 + k) = none
  | some q => cR I J P K n cs (cs (10 + k)) q.1.1 q.1.2.1 q.1.2.2 ∧ syC I P K n cs (P 31 k) q.2
/-- all that changed lies in the cellar b, in what is fixed, or is new -/
def fT (b n : Nat) (I I' : sI) (J J' : sJ) (P P' : sP) (K K' : sK) : Prop := (∀ x k, 34 < x → x < n → ¬ (b ≤ x ∧ x ≤ b + 24) → I' x k = I x k ∧ J' x k = J x k) ∧ (∀ x k, 34 < x → x < n → ¬ (x = b ∧ k = 0) → P' x k = P x k) ∧ ∀ x, x < n → K' x = K x
def subC (n : Nat) (cs cs' : Nat → Option Nat) : Prop := ∀ i b, i < 12 → cs' i = some b → (∃ j, j < 12 ∧ cs j = some b) ∨ n ≤ b
theorem subC_rf (n : Nat) (cs : Nat → Option Nat) : subC n cs cs := fun i _ hi e => Or.inl ⟨i, hi, e⟩
theorem outC_mv {n n' x m : Nat} {cs cs' : Nat → Option Nat} (h : outC n cs x m) (hn : n ≤ n') (hs : subC n cs cs') : outC n' cs' x m := by
  obtain ⟨h1, h2, h3, h4⟩ := h
  refine ⟨h1, h2, by omega, fun i b hi e => ?_⟩
  rcases hs i b hi e with ⟨j, hj, ej⟩ | q
  · exact h4 j b hj ej
  · left; omega
theorem rLN_of {J J' : sJ} {l : Nat} {hd : Nat → Nat} {nm : Nat → List Nat} (N : rLN J l hd nm) (h : ∀ k, J' (l + 1) k = J (l + 1) k) : rLN J' l hd nm := fun s hs => ⟨(h s).trans (N s hs).1, (N s hs).2⟩
theorem shN_of {P P' : sP} {K K' : sK} {s : Nat} (h : shN P K s) (hP : ∀ k, P' s k = P s k) (hK : ∀ x, s ≤ x → x ≤ s + 3 → K' x = K x) : shN P' K' s := ⟨(hK _ (by omega) (by omega)).trans h.1, (hP _).trans h.2.1, (hK _ (by omega) (by omega)).trans h.2.2.1, (hP _).trans h.2.2.2.1, (hK _ (by omega) (by omega)).trans h.2.2.2.2.1, (hP _).trans h.2.2.2.2.2.1, (hK _ (by omega) (by omega)).trans h.2.2.2.2.2.2⟩
section StX
variable {I I' : sI} {J J' : sJ} {P P' : sP} {K K' : sK} {n n' : Nat} {cs cs' : Nat → Option Nat} {hd so : Nat → Nat} {nm : Nat → List Nat} {b : Nat}
/-- the same, of a region D that may change -/
def fD (D : Nat → Prop) (n : Nat) (I I' : sI) (J J' : sJ) (P P' : sP) (K K' : sK) : Prop := (∀ x k, 34 < x → x < n → ¬ D x → I' x k = I x k ∧ J' x k = J x k ∧ P' x k = P x k) ∧ ∀ x, x < n → K' x = K x
theorem fD_T (f : fT b n I I' J J' P P' K K') : fD (fun x => b ≤ x ∧ x ≤ b + 24) n I I' J J' P P' K K' := ⟨fun x k h1 h2 h3 => ⟨(f.1 x k h1 h2 h3).1, (f.1 x k h1 h2 h3).2, f.2.1 x k h1 h2 (by omega)⟩, f.2.2⟩
theorem cR_mvD {D : Nat → Prop} {a : Nat} (h : cR I J P K n cs (some a) hd nm so) (oa : okA n a) (f : fD D n I I' J J' P P' K K') (d1 : ∀ x, a ≤ x → x ≤ a + 24 → ¬ D x) (d2 : ∀ x m y, outC n cs x m → x ≤ y → y ≤ x + m → ¬ D y) (hn : n ≤ n') (hs : subC n cs cs') : cR I' J' P' K' n' cs' (some a) hd nm so := by
  obtain ⟨a', l, e, p0, sL, oL, L, N, C, w⟩ := h
  cases e
  obtain ⟨l1, l2, l3, -⟩ := id oL
  obtain ⟨a1, a2, a3⟩ := oa
  have q : ∀ x k, l ≤ x → x ≤ l + 5 → I' x k = I x k ∧ J' x k = J x k ∧ P' x k = P x k := fun x k h1 h2 => f.1 x k (by omega) (by omega) (d2 l 5 x oL h1 h2)
  have r : ∀ x k, a ≤ x → x ≤ a + 24 → I' x k = I x k ∧ J' x k = J x k ∧ P' x k = P x k := fun x k h1 h2 => f.1 x k (by omega) (by omega) (d1 x h1 h2)
  exact ⟨a, l, rfl, (r a 0 (by omega) (by omega)).2.2.trans p0, shL_of sL (fun x k h1 h2 => (q x k h1 h2).2.2) (fun x h1 h2 => f.2 x (by omega)), outC_mv oL hn hs, rL_of L (fun x k h1 h2 => (q x k h1 h2).1), rLN_of N (fun k => (q _ k (by omega) (by omega)).2.1), rC_of C (fun x k h1 h2 => (r x k h1 h2).1) (wf_casks w), w⟩
theorem syC_mvD {D : Nat → Prop} {o : Option Nat} {sn : Option (List itT)} (h : syC I P K n cs o sn) (f : fD D n I I' J J' P P' K K') (d2 : ∀ x m y, outC n cs x m → x ≤ y → y ≤ x + m → ¬ D y) (hn : n ≤ n') (hs : subC n cs cs') : syC I' P' K' n' cs' o sn := by
  cases sn with
  | none => exact h
  | some L =>
    obtain ⟨s, e, sN, oS, R, q⟩ := h
    obtain ⟨l1, l2, l3, -⟩ := id oS
    have r : ∀ x k, s ≤ x → x ≤ s + 3 → I' x k = I x k ∧ J' x k = J x k ∧ P' x k = P x k := fun x k h1 h2 => f.1 x k (by omega) (by omega) (d2 s 3 x oS h1 h2)
    exact ⟨s, e, shN_of sN (fun k => (r s k (by omega) (by omega)).2.2) (fun x h1 h2 => f.2 x (by omega)), outC_mv oS hn hs, rN6_of R (fun x k h1 h2 => (r x k h1 h2).1), q⟩
theorem d2_b (hb : ∃ j, j < 12 ∧ cs j = some b) : ∀ x m y, outC n cs x m → x ≤ y → y ≤ x + m → ¬ (b ≤ y ∧ y ≤ b + 24) := by
  intro x m y o h1 h2
  obtain ⟨j, hj, ej⟩ := hb
  have := o.2.2.2 j b hj ej
  omega
theorem cR_mv {a : Nat} (h : cR I J P K n cs (some a) hd nm so) (oa : okA n a) (f : fT b n I I' J J' P P' K K') (hb : ∃ j, j < 12 ∧ cs j = some b) (ap : a + 24 < b ∨ b + 24 < a) (hn : n ≤ n') (hs : subC n cs cs') : cR I' J' P' K' n' cs' (some a) hd nm so := cR_mvD h oa (fD_T f) (fun x h1 h2 => by omega) (d2_b hb) hn hs
theorem syC_mv {o : Option Nat} {sn : Option (List itT)} (h : syC I P K n cs o sn) (f : fT b n I I' J J' P P' K K') (hb : ∃ j, j < 12 ∧ cs j = some b) (hn : n ≤ n') (hs : subC n cs cs') : syC I' P' K' n' cs' o sn := syC_mvD h (fD_T f) (d2_b hb) hn hs
theorem geC_mv (h : geC P K n cs) (fP : ∀ x k, 34 < x → x < n → ¬ (x = b ∧ k = 0) → P' x k = P x k) (fK : ∀ x, x < n → K' x = K x) (hb : ∃ j, j < 12 ∧ cs j = some b) (hn : n ≤ n') : geC P' K' n' cs := by
  intro i a hi e
  obtain ⟨j, hj, ej⟩ := hb
  obtain ⟨s, ⟨a1, a2, a3⟩, ap⟩ := h i a hi e
  refine ⟨shC_of s (fun x k h1 h2 h3 => fP x k (by omega) (by omega) ?_) (fun x h1 h2 => fK x (by omega)), ⟨a1, a2, by omega⟩, ap⟩
  intro z
  by_cases q : j = i
  · subst q; rw [e] at ej; cases ej; exact h3 z
  · have := ap j b hj q ej; omega
theorem geC_perm (sg : Nat → Nat) (hs : ∀ i, i < 12 → sg i < 12) (inj : ∀ i j, i < 12 → j < 12 → j ≠ i → sg j ≠ sg i) (e : ∀ i, i < 12 → cs' i = cs (sg i)) (h : geC P K n cs) : geC P K n cs' := by
  intro i a hi ea
  rw [e i hi] at ea
  obtain ⟨s, o, ap⟩ := h _ a (hs i hi) ea
  refine ⟨s, o, fun j b hj q ej => ?_⟩
  rw [e j hj] at ej
  exact ap _ b (hs j hj) (inj i j hi hj q) ej
theorem geC_new {j0 : Nat} (h : geC P K n cs) (hn : 116 < n) (s : shC P' K' n) (fP : ∀ x k, 34 < x → x < n → P' x k = P x k) (fK : ∀ x, x < n → K' x = K x) : geC P' K' (n + 25) (fun i => if i = j0 then some n else cs i) := by
  intro i a hi e
  simp only at e
  by_cases q : i = j0
  · rw [if_pos q] at e
    cases e
    refine ⟨s, ⟨by omega, by omega, by omega⟩, fun j b hj z ej => ?_⟩
    simp only at ej
    rw [if_neg (by omega)] at ej
    have := (h j b hj ej).2.1.2.2
    omega
  · rw [if_neg q] at e
    obtain ⟨s2, ⟨a1, a2, a3⟩, ap⟩ := h i a hi e
    refine ⟨shC_of s2 (fun x k h1 h2 h3 => fP x k (by omega) (by omega)) (fun x h1 h2 => fK x (by omega)), ⟨a1, a2, by omega⟩, fun j b hj z ej => ?_⟩
    simp only at ej
    by_cases q2 : j = j0
    · rw [if_pos q2] at ej
      cases ej
      left; omega
    · rw [if_neg q2] at ej
      exact ap j b hj z ej
variable {c nx : Nat} {us : Nat → Nat → Nat} {sn : Option (List itT)} {im : Nat → Option imT}
def XHc (cs : Nat → Option Nat) (nx : Nat) (I : sI) (J : sJ) (P : sP) (K : sK) (n : Nat) (hd : Nat → Nat) (nm : Nat → List Nat) (so : Nat → Nat) (c : Nat) (us : Nat → Nat → Nat) (sn : Option (List itT)) (im : Nat → Option imT) : Prop := lkC P cs ∧ geC P K n cs ∧ (I 0 12 = nI nx ∧ nx < 8 ∧ I 0 13 = nI c ∧ c ≤ 8) ∧ (∃ b, cs 1 = some b) ∧ cR I J P K n cs (cs 0) hd nm so ∧ (∀ i, i < c → cR I J P K n cs (cs (2 + (nx + 7 - i) % 8)) hd nm (us i)) ∧ syC I P K n cs (P 0 10) sn ∧ ∀ k, k < 2 → imC I J P K n cs k (im k)
def XH (I : sI) (J : sJ) (P : sP) (K : sK) (n : Nat) (hd : Nat → Nat) (nm : Nat → List Nat) (so : Nat → Nat) (c : Nat) (us : Nat → Nat → Nat) (sn : Option (List itT)) (im : Nat → Option imT) : Prop := ∃ cs nx, XHc cs nx I J P K n hd nm so c us sn im
theorem lkC_of (h : lkC P cs) (f : ∀ x k, x ≤ 34 → x ≠ 2 → P' x k = P x k) : lkC P' cs := ⟨(f _ _ (by decide) (by decide)).trans h.1, (f _ _ (by decide) (by decide)).trans h.2.1, fun i hi => (f _ _ (by decide) (by decide)).trans (h.2.2.1 i hi), fun i hi => (f _ _ (by decide) (by decide)).trans (h.2.2.2 i hi)⟩
/-- a cellar other than b stays -/
theorem cR_at {i j : Nat} {hd so : Nat → Nat} {nm : Nat → List Nat} (g : geC P K n cs) (hi : i < 12) (hj : j < 12) (ij : i ≠ j) (ej : cs j = some b) (h : cR I J P K n cs (cs i) hd nm so) (f : fT b n I I' J J' P P' K K') (hn : n ≤ n') (hs : subC n cs cs') : cR I' J' P' K' n' cs' (cs i) hd nm so := by
  obtain ⟨a, l, e, q⟩ := h
  obtain ⟨-, oa, ap⟩ := g i a hi e
  have := ap j b hj (fun z => ij z.symm) ej
  rw [e]
  exact cR_mv ⟨a, l, rfl, q⟩ oa f ⟨j, hj, ej⟩ this hn hs
theorem imC_at {k j : Nat} {q : Option imT} (g : geC P K n cs) (hk : k < 2) (hj : j < 12) (ij : 10 + k ≠ j) (ej : cs j = some b) (h : imC I J P K n cs k q) (f : fT b n I I' J J' P P' K K') (h31 : P' 31 k = P 31 k) (hn : n ≤ n') (hs : subC n cs cs') (ec : cs' (10 + k) = cs (10 + k)) : imC I' J' P' K' n' cs' k q := by
  cases q with
  | none => exact ec.trans h
  | some q =>
    obtain ⟨h1, h2⟩ := h
    refine ⟨?_, ?_⟩
    · rw [ec]; exact cR_at g (by omega) hj ij ej h1 f hn hs
    · rw [h31]; exact syC_mv h2 f ⟨j, hj, ej⟩ hn hs
/-- the trial has changed, and what is not told of -/
theorem XHc_mv (h : XHc cs nx I J P K n hd nm so c us sn im) (e1 : cs 1 = some b) (f : fT b n I I' J J' P P' K K') (lo : ∀ x k, x ≤ 34 → x ≠ 2 → P' x k = P x k) (h12 : I' 0 12 = I 0 12) (h13 : I' 0 13 = I 0 13) (hn : n ≤ n') : XHc cs nx I' J' P' K' n' hd nm so c us sn im := by
  obtain ⟨l, g, ⟨a1, a2, a3, a4⟩, t, C, A, S, M⟩ := h
  have hb : ∃ j, j < 12 ∧ cs j = some b := ⟨1, by decide, e1⟩
  have hs := subC_rf n cs
  refine ⟨lkC_of l lo, geC_mv g f.2.1 f.2.2 hb hn, ⟨h12.trans a1, a2, h13.trans a3, a4⟩, t, cR_at g (by decide) (by decide) (by decide) e1 C f hn hs, fun i hi => cR_at g (by omega) (by decide) (by omega) e1 (A i hi) f hn hs, ?_, fun k hk => imC_at g hk (by decide) (by omega) e1 (M k hk) f (lo _ _ (by decide) (by decide)) hn hs rfl⟩
  rw [lo 0 10 (by decide) (by decide)]
  exact syC_mv S f hb hn hs
/-- the trial holds what is to be -/
def XHt (cs : Nat → Option Nat) (nx b : Nat) (sx : Nat → Nat) (I : sI) (J : sJ) (P : sP) (K : sK) (n : Nat) (hd : Nat → Nat) (nm : Nat → List Nat) (so : Nat → Nat) (c : Nat) (us : Nat → Nat → Nat) (sn : Option (List itT)) (im : Nat → Option imT) : Prop := XHc cs nx I J P K n hd nm so c us sn im ∧ cs 1 = some b ∧ cR I J P K n cs (some b) hd nm sx
theorem cR_sC {i : Nat} (g : geC P K n cs) (hi : i < 12) (h : cR I J P K n cs (cs i) hd nm so) : ∃ a l, cs i = some a ∧ okA n a ∧ outC n cs l 5 ∧ sC P K a l ∧ rL I l hd ∧ rLN J l hd nm ∧ rC I a hd so ∧ wf hd so := by
  obtain ⟨a, l, e, p0, sL, oL, q⟩ := h
  obtain ⟨s, o, -⟩ := g i a hi e
  exact ⟨a, l, e, o, oL, ⟨s, p0, sL, o.1, oL.1, oL.2.2.2 i a hi e⟩, q⟩
theorem XHt_fr {sx sy : Nat → Nat} (h : XHt cs nx b sx I J P K n hd nm so c us sn im) (f : ∀ x k, 34 < x → ¬ (b ≤ x ∧ x ≤ b + 24) → I' x k = I x k) (h12 : I' 0 12 = I 0 12) (h13 : I' 0 13 = I 0 13) (C : rC I' b hd sy) (w : wf hd sy) : XHt cs nx b sy I' J P K n hd nm so c us sn im := by
  obtain ⟨h1, e1, h2⟩ := h
  have hf : fT b n I I' J J P P K K := ⟨fun x k a _ c => ⟨f x k a c, rfl⟩, fun _ _ _ _ _ => rfl, fun _ _ => rfl⟩
  refine ⟨XHc_mv h1 e1 hf (fun _ _ _ _ => rfl) h12 h13 (Nat.le_refl _), e1, ?_⟩
  obtain ⟨a, l, e, p0, sL, oL, L, N, C0, w0⟩ := h2
  cases e
  have := oL.2.2.2 1 b (by decide) e1
  obtain ⟨o1, o2, o3, -⟩ := id oL
  exact ⟨b, l, rfl, p0, sL, oL, rL_of L (fun x k h1 h2 => f x k (by omega) (by omega)), N, C, w⟩
theorem XHt_sC {sx : Nat → Nat} (h : XHt cs nx b sx I J P K n hd nm so c us sn im) : P 0 9 = some b ∧ okA n b ∧ ∃ l, outC n cs l 5 ∧ sC P K b l ∧ rL I l hd ∧ rLN J l hd nm ∧ rC I b hd sx ∧ wf hd sx := by
  obtain ⟨h1, e1, h2⟩ := h
  rw [← e1] at h2
  obtain ⟨a, l, e, o, r⟩ := cR_sC h1.2.1 (by decide) h2
  rw [e1] at e
  cases e
  exact ⟨h1.1.2.1.trans e1, o, l, r⟩
theorem XH_sC (h : XHc cs nx I J P K n hd nm so c us sn im) : ∃ a l, P 0 8 = some a ∧ cs 0 = some a ∧ okA n a ∧ outC n cs l 5 ∧ sC P K a l ∧ rL I l hd ∧ rLN J l hd nm ∧ rC I a hd so ∧ wf hd so := by
  obtain ⟨a, l, e, r⟩ := cR_sC h.2.1 (by decide) h.2.2.2.2.1
  exact ⟨a, l, h.1.1.trans e, e, r⟩
end StX
