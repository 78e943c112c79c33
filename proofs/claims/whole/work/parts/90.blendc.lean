/-! the class: blend, by four casks -/
def lm4 (hd so : Nat → Nat) (s x i : Nat) : Nat := if i < hd (5 + s) then (if ltr so (fst' hd s + i) < x then ltr so (fst' hd s + i) else x) else 0
def f4 (hd so : Nat → Nat) (s i y : Nat) : Nat := if i < hd (5 + s) then agp so (fst' hd s + i) y else 0
theorem agp_0 (so : Nat → Nat) (k : Nat) : agp so k 0 = 0 := by
  unfold agp
  have e : shr (wn so k) 40 0 = fun _ => 0 := by unfold shr; rw [if_pos rfl]
  rw [e]
  exact sm_eq0.mpr (fun v _ => Nat.zero_mul _)
/-- the same, as far as the first m litres go -/
def eqS (m : Nat) (a b : bSt) : Prop := (a = none ∧ b = none) ∨ ∃ p q, a = some p ∧ b = some q ∧ p.1 = q.1 ∧ ∀ k, k < m → p.2 k = q.2 k
theorem eqS_bo {m : Nat} {a b : bSt} (h : eqS m a b) : bo a = bo b := by
  rcases h with ⟨rfl, rfl⟩ | ⟨p, q, rfl, rfl, e, -⟩
  · rfl
  · exact e
theorem eqS_L {m A left t : Nat} {r r' : Nat → Nat} {a b : bSt} (hr : ∀ k, k < m → r k = r' k) (h : eqS m a b) : eqS m (blL A left t r a) (blL A left t r' b) := by
  unfold blL
  rw [eqS_bo h]
  split
  · exact Or.inr ⟨_, _, rfl, rfl, rfl, hr⟩
  · exact h
theorem eqS_it {m : Nat} {F G : Nat → bSt → bSt} {N : Nat} (h : ∀ y, y < N → ∀ a b, eqS m a b → eqS m (F y a) (G y b)) : ∀ j, j ≤ N → ∀ a b, eqS m a b → eqS m (it F j a) (it G j b) := by
  intro j
  induction j with
  | zero => intro _ a b q; exact q
  | succ j ih => intro hj a b q; exact h j (by omega) _ _ (ih (by omega) a b q)
/-- casks that are not there give nothing -/
theorem eqS_pad {m A : Nat} {f : Nat → Nat → Nat} {lim : Nat → Nat} (hl : ∀ i, m ≤ i → lim i = 0) (hf : ∀ i, m ≤ i → f i 0 = 0) : ∀ (r i left t : Nat) (row row' : Nat → Nat) (a b : bSt), m ≤ i → (∀ k, k < m → row k = row' k) → eqS m a b → eqS m (blF A f lim r i left t row a) (blL A left t row' b) := by
  intro r
  induction r with
  | zero => intro i left t row row' a b _ hr h; exact eqS_L hr h
  | succ r ih =>
    intro i left t row row' a b hi hr h
    simp only [blF]
    have e : (if left ≤ lim i then left else lim i) + 1 = 1 := by rw [hl i hi]; split <;> omega
    rw [e]
    show eqS m (blF A f lim r (i + 1) (left - 0) (t + f i 0) (up row i 0) a) _
    rw [hf i hi, Nat.sub_zero, Nat.add_zero]
    exact ih (i + 1) left t _ row' a b (by omega) (fun k hk => by rw [up_n _ _ (by omega)]; exact hr k hk) h
theorem eqS_F {m A x : Nat} {f f' : Nat → Nat → Nat} {lim lim' : Nat → Nat} (hl : ∀ i, m ≤ i → lim i = 0) (hf : ∀ i, m ≤ i → f i 0 = 0) (hl2 : ∀ i, i < m → lim i = if lim' i < x then lim' i else x) (hf2 : ∀ i y, i < m → f i y = f' i y) (pad : Nat) : ∀ (r i left t : Nat) (row row' : Nat → Nat) (a b : bSt), i + r = m → left ≤ x → (∀ k, k < m → row k = row' k) → eqS m a b → eqS m (blF A f lim (r + pad) i left t row a) (blF A f' lim' r i left t row' b) := by
  intro r
  induction r with
  | zero =>
    intro i left t row row' a b hi hx hr h
    rw [Nat.zero_add]
    exact eqS_pad hl hf pad i left t row row' a b (by omega) hr h
  | succ r ih =>
    intro i left t row row' a b hi hx hr h
    rw [show r + 1 + pad = (r + pad) + 1 by omega]
    simp only [blF]
    have e : (if left ≤ lim i then left else lim i) = (if left ≤ lim' i then left else lim' i) := by
      rw [hl2 i (by omega)]
      split <;> split <;> (try split) <;> omega
    rw [e]
    refine eqS_it (N := (if left ≤ lim' i then left else lim' i) + 1) (fun y hy a b q => ?_) _ (Nat.le_refl _) a b h
    rw [hf2 i y (by omega)]
    exact ih (i + 1) (left - y) _ _ _ a b (by omega) (by omega) (fun k hk => by
      by_cases c : k = i
      · rw [c, up_s, up_s]
      · rw [up_n _ _ c, up_n _ _ c]; exact hr k hk) q
/-- the last one gives all that is left -/
theorem blF_1 {A : Nat} {f : Nat → Nat → Nat} {lim : Nat → Nat} (i left t : Nat) (row : Nat → Nat) (s : bSt) : blF A f lim 1 i left t row s = if left ≤ lim i then blL A 0 (t + f i left) (up row i left) s else s := by
  simp only [blF]
  have key : ∀ j, j ≤ left → it (fun x s => blL A (left - x) (t + f i x) (up row i x) s) j s = s := by
    intro j
    induction j with
    | zero => intro _; rfl
    | succ j ih =>
      intro hj
      show blL A (left - j) _ _ (it _ j s) = s
      rw [ih (by omega)]
      unfold blL
      rw [if_neg (by omega)]
  by_cases c : left ≤ lim i
  · rw [if_pos c, if_pos c]
    show blL A (left - left) _ _ (it _ left s) = _
    rw [key left (Nat.le_refl _), Nat.sub_self]
  · rw [if_neg c, if_neg c]
    exact key _ (by omega)
theorem abs_far {t A : Nat} (ht : t < 1000000) (hA : A < 1000000) : (if 0 ≤ nI t - nI A then nI t - nI A else 0 - (nI t - nI A)) = nI (far A t) := by
  unfold far
  by_cases c : A ≤ t
  · rw [if_pos c, i_sub c, if_pos (nI_pos' (by omega))]
  · rw [if_neg c, if_neg (sub_neg (by omega) (by omega))]
    have e : nI A - nI t = nI (A - t) := i_sub (by omega)
    rw [← e]
    apply Int32.toBitVec_inj.mp
    simp
section BlendC
variable {G : gG} {d : Nat} {I : sI} {J : sJ} {P : sP} {K : sK} {n : Nat} {F : Int32 → sI → sJ → Prop} {FV : sI → sJ → Prop} {hd so : Nat → Nat} {c l : Nat}
theorem lm4_le {s x i : Nat} : lm4 hd so s x i ≤ x := by unfold lm4; split <;> (try split) <;> omega
theorem shX_R4 (hX : shX P K) {i : Nat} (h : i < 4) : K (13 + i) = (13, 21) := by
  have hcs : i = 0 ∨ i = 1 ∨ i = 2 ∨ i = 3 := by omega
  rcases hcs with rfl | rfl | rfl | rfl
  · exact shX_K13 hX
  · exact shX_K14 hX
  · exact shX_K15 hX
  · exact shX_K16 hX
theorem C_fillRows {s x : Nat} (hX : shX P K) (S : sC P K c l) (L : rL I l hd) (C : rC I c hd so) (w : wf hd so) (hs : s < hd 0) (hx : x ≤ 20) (h : ∀ I', (∀ i, i < 4 → I' 17 i = nI (lm4 hd so s x i)) → (∀ i y, i < 4 → y ≤ lm4 hd so s x i → I' (13 + i) y = nI (f4 hd so s i y)) → (∀ a k, ¬ (5 ≤ a ∧ a ≤ 6) → ¬ (13 ≤ a ∧ a ≤ 17) → I' a k = I a k) → FV I' J) : ckV G (d + 2) mX7_fillBlendRows [.ref 10, .ref c, .ref 4, .int (nI s), .int (nI x)] I J P K n FV := by
  have hc := wf_casks w
  have h0 := w.1
  have c34 := S.2.2.2.1
  have l34 := S.2.2.2.2.1
  refine bX7_fillBlendRows_0 _ _ _ ?_
  have key := loopN 4 (fun j => ∀ I', (∀ i, i < j → I' 17 i = nI (lm4 hd so s x i)) → (∀ i y, i < j → y ≤ lm4 hd so s x i → I' (13 + i) y = nI (f4 hd so s i y)) → (∀ a k, ¬ (5 ≤ a ∧ a ≤ 6) → ¬ (13 ≤ a ∧ a ≤ 17) → I' a k = I a k) → Ok G (d + 2) mX7_fillBlendRows 3 [some (.ref 10), some (.ref c), some (.ref 4), some (.int (nI s)), some (.int (nI x)), some (.int (nI j)), none, none] [] I' J P K n (kV P K n FV)) ?_ ?_ 0 (by omega)
  · exact key I (fun i hi => by omega) (fun i y hi => by omega) (fun _ _ _ _ => rfl)
  · intro I' p1 p2 p3
    exact bX7_fillBlendRows_3 hX _ _ _ _ S.1 (br_t (nI_le (b := 4) (Nat.le_refl _) (by decide)) (h I' p1 p2 p3))
  · intro j hj ih I' p1 p2 p3
    have L' : rL I' l hd := rL_of L (fun a k a1 a2 => p3 a k (by omega) (by omega))
    have C' : rC I' c hd so := rC_of C (fun a k a1 a2 => p3 a k (by omega) (by omega)) hc
    refine bX7_fillBlendRows_3 hX _ _ _ _ S.1 (br_f (nI_ge (b := 4) hj (by decide)) ⟨l, S.2.1, S.2.2.1, C_caskOf S.2.2.1 L' w (by omega) (by omega) ?_⟩)
    rw [if_pos hs]
    have hv4 : vp_in (nI j) 4 := nI_inN hj (by decide)
    rw [nI_ck (by omega)]
    have main : ∀ (v6 : Int32), (0 < lm4 hd so s x j → v6 = nI (fst' hd s + j) ∧ j < hd (5 + s)) → Ok G (d + 2) mX7_fillBlendRows 63 [some (.ref 10), some (.ref c), some (.ref 4), some (.int (nI s)), some (.int (nI x)), some (.int (nI j)), some (.int v6), some (.int 1)] [] (u2 (u2 I' 17 j (nI (lm4 hd so s x j))) (13 + j) 0 0) J P K n (kV P K n FV) := by
      intro v6 hv6
      generalize hB : u2 (u2 I' 17 j (nI (lm4 hd so s x j))) (13 + j) 0 0 = B
      have b17 : ∀ i, i < j + 1 → B 17 i = nI (lm4 hd so s x i) := fun i hi => by
        rw [← hB, u2_a _ _ _ _ (by omega)]
        by_cases e : i = j
        · subst e; rw [u2_s]
        · rw [u2_k _ _ _ _ e]; exact p1 i (by omega)
      have bo : ∀ a k, ¬ (5 ≤ a ∧ a ≤ 6) → ¬ (13 ≤ a ∧ a ≤ 17) → B a k = I a k := fun a k a1 a2 => by rw [← hB, u2_a _ _ _ _ (by omega), u2_a _ _ _ _ (by omega)]; exact p3 a k a1 a2
      have bl : ∀ i y, i < j → y ≤ lm4 hd so s x i → B (13 + i) y = nI (f4 hd so s i y) := fun i y hi hy => by rw [← hB, u2_a _ _ _ _ (by omega), u2_a _ _ _ _ (by omega)]; exact p2 i y hi hy
      have b0 : B (13 + j) 0 = nI (f4 hd so s j 0) := by
        rw [← hB, u2_s]; unfold f4; rw [agp_0]; split <;> rfl
      have hle : lm4 hd so s x j ≤ x := lm4_le
      have key2 := loopN (lm4 hd so s x j) (fun y => ∀ I2, (∀ i, i < j + 1 → I2 17 i = nI (lm4 hd so s x i)) → (∀ i z, i < j → z ≤ lm4 hd so s x i → I2 (13 + i) z = nI (f4 hd so s i z)) → (∀ z, z ≤ y → I2 (13 + j) z = nI (f4 hd so s j z)) → (∀ a k, ¬ (5 ≤ a ∧ a ≤ 6) → ¬ (13 ≤ a ∧ a ≤ 17) → I2 a k = I a k) → Ok G (d + 2) mX7_fillBlendRows 63 [some (.ref 10), some (.ref c), some (.ref 4), some (.int (nI s)), some (.int (nI x)), some (.int (nI j)), some (.int v6), some (.int (nI (y + 1)))] [] I2 J P K n (kV P K n FV)) ?_ ?_ 0 (by omega)
      · exact key2 B b17 bl (fun z hz => by rw [show z = 0 by omega]; exact b0) bo
      · intro I2 q1 q2 q3 q4
        refine bX7_fillBlendRows_63 hX _ _ _ _ _ _ S.1 ⟨hv4, ?_⟩
        rw [nI_ck (by omega), q1 j (by omega)]
        refine br_t (nI_lt (by omega) (by omega)) ?_
        rw [nI_1]
        refine ih I2 q1 (fun i z hi hz => ?_) q4
        by_cases e : i = j
        · subst e; exact q3 z hz
        · exact q2 i z (by omega) hz
      · intro y hy ih2 I2 q1 q2 q3 q4
        obtain ⟨e6, hjs⟩ := hv6 (by omega)
        have hk := wf_in w hs hjs
        have C2 : rC I2 c hd so := rC_of C (fun a k a1 a2 => q4 a k (by omega) (by omega)) hc
        have hyl : y + 1 ≤ ltr so (fst' hd s + j) := by
          unfold lm4 at hy
          rw [if_pos hjs] at hy
          split at hy <;> omega
        have hl := wf_ltr w hk
        refine bX7_fillBlendRows_63 hX _ _ _ _ _ _ S.1 ⟨hv4, ?_⟩
        rw [nI_ck (by omega), q1 j (by omega), e6]
        refine br_f (nI_nlt (by omega) (by omega)) ⟨nI_inN (by omega) (by decide), ?_⟩
        rw [nI_ck (by omega)]
        refine C_share (m := 40) (own := wn so (fst' hd s + j)) hX ((shC_R S.1) _ (by omega)).2 (shX_K6 hX) (by decide) (by decide) (by decide) (by decide) (by decide) (by omega) (by omega) (by decide) (fun v hv => C2.2.2.2.1 _ v hk hv) hyl (by show ltr so _ ≤ _; omega) (fun I3 g1 g2 => ⟨hv4, ?_⟩)
        refine C_agesOfRow (so := so) (f := shr (wn so (fst' hd s + j)) 40 (y + 1)) S.1 (shX_K6 hX) (by rw [g2 c 1 (by omega) (by omega)]; exact C2.1) w.2.2.2.2.2.2.1 g1 ⟨nI_inN (by omega) (by decide), ?_⟩
        rw [nI_ck (by omega), nI_1]
        have ef : f4 hd so s j (y + 1) = agp so (fst' hd s + j) (y + 1) := by unfold f4; rw [if_pos hjs]
        have o3 : ∀ (v : Int32) a k, ¬ (5 ≤ a ∧ a ≤ 6) → a ≠ 13 + j → u2 I3 (13 + j) (y + 1) v a k = I2 a k := fun v a k a1 a2 => by rw [u2_a _ _ _ _ a2]; exact g2 a k (by omega) (by omega)
        rw [← e6]
        refine ih2 _ (fun i hi => ?_) (fun i z hi hz => ?_) (fun z hz => ?_) (fun a k a1 a2 => ?_)
        · rw [o3 _ 17 i (by omega) (by omega)]; exact q1 i hi
        · rw [o3 _ (13 + i) z (by omega) (by omega)]; exact q2 i z hi hz
        · by_cases e : z = y + 1
          · subst e; rw [u2_s, ef]; rfl
          · rw [u2_k _ _ _ _ e, g2 _ _ (by omega) (by omega)]; exact q3 z (by omega)
        · rw [o3 _ a k a1 (by omega)]; exact q4 a k a1 a2
    unfold ckO
    by_cases e : j < hd (5 + s)
    · rw [if_pos e]
      have hk := wf_in w hs e
      have hl := wf_ltr w hk
      have e2 : (if nI (ltr so (fst' hd s + j)) < nI x then nI (ltr so (fst' hd s + j)) else nI x) = nI (lm4 hd so s x j) := by
        unfold lm4
        rw [if_pos e]
        by_cases q : ltr so (fst' hd s + j) < x
        · rw [if_pos (nI_lt q (by omega)), if_pos q]
        · rw [if_neg (nI_nlt (by omega) (by omega)), if_neg q]
      refine br_f (nI_nm1 (by omega)) ⟨nI_inN (by omega) (by decide), hv4, hv4, ?_⟩
      show Ok G (d + 2) mX7_fillBlendRows 63 _ _ (u2 (u2 I' 17 j (if I' (c + 22) (nI (fst' hd s + j)).toNatClampNeg < nI x then I' (c + 22) (nI (fst' hd s + j)).toNatClampNeg else nI x)) _ _ _) J P K n _
      rw [nI_ck (by omega), (C'.2.2.2.2.1 _ hk).1, e2]
      exact main (nI (fst' hd s + j)) (fun _ => ⟨rfl, e⟩)
    · rw [if_neg e]
      refine br_t rfl ⟨hv4, hv4, ?_⟩
      have e2 : lm4 hd so s x j = 0 := by unfold lm4; rw [if_neg e]
      have := main (-1) (fun q => by omega)
      rw [e2] at this
      exact this
end BlendC
