section BlendD
variable {G : gG} {d : Nat} {I : sI} {J : sJ} {P : sP} {K : sK} {n : Nat} {F : Int32 → sI → sJ → Prop} {FV : sI → sJ → Prop} {hd so : Nat → Nat} {c l : Nat} {f : Nat → Nat → Nat} {lm : Nat → Nat} {x a : Nat}
def o6 (s : bSt) : Int32 := match s with
  | none => -1
  | some p => nI p.1
def rK (I : sI) (s : bSt) : Prop := ∀ p, s = some p → p.1 < 1000000 ∧ ∀ k, k < 4 → I 11 k = nI (p.2 k)
def rW (I : sI) (lm : Nat → Nat) (f : Nat → Nat → Nat) : Prop := (∀ i, i < 4 → I 17 i = nI (lm i)) ∧ ∀ i y, i < 4 → y ≤ lm i → I (13 + i) y = nI (f i y)
def fr11 (I I' : sI) : Prop := ∀ a k, a ≠ 11 → I' a k = I a k
theorem rW_fr {I I' : sI} (W : rW I lm f) (h : fr11 I I') : rW I' lm f := ⟨fun i hi => (h 17 i (by decide)).trans (W.1 i hi), fun i y hi hy => (h (13 + i) y (by omega)).trans (W.2 i y hi hy)⟩
theorem fr11_tr {I I' I2 : sI} (h : fr11 I I') (h2 : fr11 I' I2) : fr11 I I2 := fun a k q => (h2 a k q).trans (h a k q)
theorem far_lt {A t : Nat} (hA : A ≤ 10000) (ht : t ≤ 10000) : far A t ≤ 10000 := by unfold far; split <;> omega
/-- the third cask, and what is left of the fourth -/
theorem C_blend66 {i j : Nat} {row : Nat → Nat} {s0 : bSt} (hX : shX P K) (hx : x ≤ 20) (ha : a < 40) (hlm : ∀ i, i < 4 → lm i ≤ x) (hfb : ∀ i y, i < 4 → y ≤ lm i → f i y ≤ 1000) (W : rW I lm f) (hi : i ≤ lm 0) (hj : j ≤ lm 1) (hij : i + j ≤ x) (r0 : row 0 = i) (r1 : row 1 = j) (R : rK I s0)
    (h : ∀ I' s, s = blF (x * a) f lm 2 2 (x - i - j) (f 0 i + f 1 j) row s0 → rK I' s → fr11 I I' → Ok G (d + 1) mX7_bestBlend 42 [some (.ref 10), none, none, none, some (.int (nI x)), some (.int (nI a)), some (.int (o6 s)), some (.int (nI i)), some (.int (nI (j + 1))), none, none, none, none] [] I' J P K n (kI P K n F)) : Ok G (d + 1) mX7_bestBlend 66 [some (.ref 10), none, none, none, some (.int (nI x)), some (.int (nI a)), some (.int (o6 s0)), some (.int (nI i)), some (.int (nI j)), some (.int (nI 0)), none, none, none] [] I J P K n (kI P K n F) := by
  have hxa : x * a ≤ 20 * 40 := Nat.mul_le_mul hx (by omega)
  have l2 := hlm 2 (by decide)
  have l3 := hlm 3 (by decide)
  have fi := hfb 0 i (by decide) hi
  have fj := hfb 1 j (by decide) hj
  have i0 := hlm 0 (by decide)
  have j0 := hlm 1 (by decide)
  have hst : blF (x * a) f lm 2 2 (x - i - j) (f 0 i + f 1 j) row s0 = it (fun y s => blF (x * a) f lm 1 3 (x - i - j - y) (f 0 i + f 1 j + f 2 y) (up row 2 y) s) ((if x - i - j ≤ lm 2 then x - i - j else lm 2) + 1) s0 := rfl
  generalize hN : (if x - i - j ≤ lm 2 then x - i - j else lm 2) + 1 = N at hst
  have hN1 : N ≤ x - i - j + 1 ∧ N ≤ lm 2 + 1 ∧ (N = x - i - j + 1 ∨ N = lm 2 + 1) ∧ 1 ≤ N := by rw [← hN]; split <;> omega
  have key := loopN N (fun y => ∀ I' s, s = it (fun y s => blF (x * a) f lm 1 3 (x - i - j - y) (f 0 i + f 1 j + f 2 y) (up row 2 y) s) y s0 → rK I' s → fr11 I I' → Ok G (d + 1) mX7_bestBlend 66 [some (.ref 10), none, none, none, some (.int (nI x)), some (.int (nI a)), some (.int (o6 s)), some (.int (nI i)), some (.int (nI j)), some (.int (nI y)), none, none, none] [] I' J P K n (kI P K n F)) ?_ ?_ 0 (by omega)
  · exact key I s0 rfl R (fun _ _ _ => rfl)
  · intro I' s es R' fr
    have W' := rW_fr W fr
    have ex := h I' s (es.trans hst.symm) R' fr
    refine bX7_bestBlend_66 hX _ _ _ _ _ _ ?_
    rw [W'.1 2 (by decide), i_lt (by omega) (by omega), nI_1 j]
    refine ⟨fun _ => ex, fun q => br_t ?_ ex⟩
    rw [i_add, i_add]; exact nI_lt (by omega) (by omega)
  · intro y hy ih I' s es R' fr
    have W' := rW_fr W fr
    have st : it (fun y s => blF (x * a) f lm 1 3 (x - i - j - y) (f 0 i + f 1 j + f 2 y) (up row 2 y) s) (y + 1) s0 = blF (x * a) f lm 1 3 (x - i - j - y) (f 0 i + f 1 j + f 2 y) (up row 2 y) s := by rw [es]; rfl
    rw [st, blF_1] at ih
    refine bX7_bestBlend_66 hX _ _ _ _ _ _ ?_
    rw [W'.1 2 (by decide), W'.1 3 (by decide), nI_1 y]
    have em : nI x - nI i - nI j - nI y = nI (x - i - j - y) := by rw [i_sub (by omega), i_sub (by omega), i_sub (by omega)]
    rw [em]
    refine br_f (nI_nlt (by omega) (by omega)) (br_f ?_ ?_)
    · rw [i_add, i_add]; exact nI_nlt (by omega) (by omega)
    · by_cases c : x - i - j - y ≤ lm 3
      · rw [if_pos c] at ih
        refine br_t (nI_le c (by omega)) ⟨nI_inN (by omega) (by decide), nI_inN (by omega) (by decide), nI_inN (by omega) (by decide), nI_inN (by omega) (by decide), ?_⟩
        have fy := hfb 2 y (by decide) (by omega)
        have fm := hfb 3 _ (by decide) c
        have w0 : I' 13 i = nI (f 0 i) := W'.2 0 i (by decide) hi
        have w1 : I' 14 j = nI (f 1 j) := W'.2 1 j (by decide) hj
        have w2 : I' 15 y = nI (f 2 y) := W'.2 2 y (by decide) (by omega)
        have w3 : I' 16 (x - i - j - y) = nI (f 3 (x - i - j - y)) := W'.2 3 _ (by decide) c
        rw [nI_ck (show i < 2147483648 by omega), nI_ck (show j < 2147483648 by omega), nI_ck (show y < 2147483648 by omega), nI_ck (show x - i - j - y < 2147483648 by omega), w0, w1, w2, w3, i_add, i_add, i_add, i_mul, abs_far (by omega) (by omega)]
        have fl := far_lt (A := x * a) (t := f 0 i + f 1 j + f 2 y + f 3 (x - i - j - y)) (by omega) (by omega)
        have keep : (x - i - j - y) ≤ x → far (x * a) (f 0 i + f 1 j + f 2 y + f 3 (x - i - j - y)) < bo s → Ok G (d + 1) mX7_bestBlend 184 [some (.ref 10), none, none, none, some (.int (nI x)), some (.int (nI a)), none, some (.int (nI i)), some (.int (nI j)), some (.int (nI y)), some (.int (nI (x - i - j - y))), none, some (.int (nI (far (x * a) (f 0 i + f 1 j + f 2 y + f 3 (x - i - j - y)))))] [] I' J P K n (kI P K n F) := fun _ hb => by
          refine bX7_bestBlend_184 hX _ _ _ _ _ _ _ (bX7_keepBlend_0 hX _ _ _ _ ?_)
          rw [nI_1]
          have eb : blL (x * a) 0 (f 0 i + f 1 j + f 2 y + f 3 (x - i - j - y)) (up (up row 2 y) 3 (x - i - j - y)) s = some (far (x * a) (f 0 i + f 1 j + f 2 y + f 3 (x - i - j - y)), up (up row 2 y) 3 (x - i - j - y)) := by unfold blL; rw [if_pos ⟨rfl, hb⟩]
          rw [eb] at ih
          refine ih _ _ rfl (fun p hp => ?_) (fun b k hb => ?_)
          · cases hp
            refine ⟨by show far _ _ < _; omega, fun k hk => ?_⟩
            show _ = nI (up (up row 2 y) 3 (x - i - j - y) k)
            have hcs : k = 0 ∨ k = 1 ∨ k = 2 ∨ k = 3 := by omega
            rcases hcs with rfl | rfl | rfl | rfl
            · rw [u2_k _ _ _ _ (by decide), u2_k _ _ _ _ (by decide), u2_k _ _ _ _ (by decide), u2_s, up_n _ _ (by decide), up_n _ _ (by decide), r0]
            · rw [u2_k _ _ _ _ (by decide), u2_k _ _ _ _ (by decide), u2_s, up_n _ _ (by decide), up_n _ _ (by decide), r1]
            · rw [u2_k _ _ _ _ (by decide), u2_s, up_n _ _ (by decide), up_s]
            · rw [u2_s, up_s]
          · rw [u2_a _ _ _ _ hb, u2_a _ _ _ _ hb, u2_a _ _ _ _ hb, u2_a _ _ _ _ hb]; exact fr b k hb
        have same : ¬ far (x * a) (f 0 i + f 1 j + f 2 y + f 3 (x - i - j - y)) < bo s → Ok G (d + 1) mX7_bestBlend 66 [some (.ref 10), none, none, none, some (.int (nI x)), some (.int (nI a)), some (.int (o6 s)), some (.int (nI i)), some (.int (nI j)), some (.int (nI (y + 1))), none, none, none] [] I' J P K n (kI P K n F) := fun hb => by
          have eb : blL (x * a) 0 (f 0 i + f 1 j + f 2 y + f 3 (x - i - j - y)) (up (up row 2 y) 3 (x - i - j - y)) s = s := by unfold blL; rw [if_neg (fun q => hb q.2)]
          rw [eb] at ih
          exact ih I' s rfl R' fr
        cases s with
        | none => exact br_t rfl (keep (by omega) (by show _ < 1000000; omega))
        | some p =>
          have hp := (R' p rfl).1
          refine br_f (nI_nm1 (by omega)) ?_
          have eo : o6 (some p) = nI p.1 := rfl
          rw [eo, i_le (by omega) (by omega)]
          exact ⟨fun q => same (by show ¬ _ < p.1; omega), fun q => keep (by omega) (by show _ < p.1; omega)⟩
      · rw [if_neg c] at ih
        exact br_f (nI_ge (by omega) (by omega)) (ih I' s rfl R' fr)
theorem C_blend42 {i : Nat} {row : Nat → Nat} {s0 : bSt} (hX : shX P K) (hx : x ≤ 20) (ha : a < 40) (hlm : ∀ i, i < 4 → lm i ≤ x) (hfb : ∀ i y, i < 4 → y ≤ lm i → f i y ≤ 1000) (W : rW I lm f) (hi : i ≤ lm 0) (r0 : row 0 = i) (R : rK I s0)
    (h : ∀ I' s, s = blF (x * a) f lm 3 1 (x - i) (f 0 i) row s0 → rK I' s → fr11 I I' → Ok G (d + 1) mX7_bestBlend 28 [some (.ref 10), none, none, none, some (.int (nI x)), some (.int (nI a)), some (.int (o6 s)), some (.int (nI (i + 1))), none, none, none, none, none] [] I' J P K n (kI P K n F)) : Ok G (d + 1) mX7_bestBlend 42 [some (.ref 10), none, none, none, some (.int (nI x)), some (.int (nI a)), some (.int (o6 s0)), some (.int (nI i)), some (.int (nI 0)), none, none, none, none] [] I J P K n (kI P K n F) := by
  have i0 := hlm 0 (by decide)
  have j0 := hlm 1 (by decide)
  have hst : blF (x * a) f lm 3 1 (x - i) (f 0 i) row s0 = it (fun y s => blF (x * a) f lm 2 2 (x - i - y) (f 0 i + f 1 y) (up row 1 y) s) ((if x - i ≤ lm 1 then x - i else lm 1) + 1) s0 := rfl
  generalize hN : (if x - i ≤ lm 1 then x - i else lm 1) + 1 = N at hst
  have hN1 : N ≤ x - i + 1 ∧ N ≤ lm 1 + 1 ∧ (N = x - i + 1 ∨ N = lm 1 + 1) ∧ 1 ≤ N := by rw [← hN]; split <;> omega
  have key := loopN N (fun y => ∀ I' s, s = it (fun y s => blF (x * a) f lm 2 2 (x - i - y) (f 0 i + f 1 y) (up row 1 y) s) y s0 → rK I' s → fr11 I I' → Ok G (d + 1) mX7_bestBlend 42 [some (.ref 10), none, none, none, some (.int (nI x)), some (.int (nI a)), some (.int (o6 s)), some (.int (nI i)), some (.int (nI y)), none, none, none, none] [] I' J P K n (kI P K n F)) ?_ ?_ 0 (by omega)
  · exact key I s0 rfl R (fun _ _ _ => rfl)
  · intro I' s es R' fr
    have W' := rW_fr W fr
    have ex := h I' s (es.trans hst.symm) R' fr
    refine bX7_bestBlend_42 hX _ _ _ _ _ ?_
    rw [W'.1 1 (by decide), i_lt (by omega) (by omega), nI_1 i]
    refine ⟨fun _ => ex, fun q => br_t ?_ ex⟩
    rw [i_add]; exact nI_lt (by omega) (by omega)
  · intro y hy ih I' s es R' fr
    have W' := rW_fr W fr
    have st : it (fun y s => blF (x * a) f lm 2 2 (x - i - y) (f 0 i + f 1 y) (up row 1 y) s) (y + 1) s0 = blF (x * a) f lm 2 2 (x - i - y) (f 0 i + f 1 y) (up row 1 y) s := by rw [es]; rfl
    rw [st] at ih
    refine bX7_bestBlend_42 hX _ _ _ _ _ ?_
    rw [W'.1 1 (by decide)]
    refine br_f (nI_nlt (by omega) (by omega)) (br_f ?_ ?_)
    · rw [i_add]; exact nI_nlt (by omega) (by omega)
    · exact C_blend66 (row := up row 1 y) hX hx ha hlm hfb W' hi (by omega) (by omega) (by rw [up_n _ _ (by decide)]; exact r0) (up_s _ _ _) R' (fun I2 s2 e2 R2 f2 => ih I2 s2 e2 R2 (fr11_tr fr f2))
theorem C_blend28 {s0 : bSt} (hX : shX P K) (hx : x ≤ 20) (ha : a < 40) (hlm : ∀ i, i < 4 → lm i ≤ x) (hfb : ∀ i y, i < 4 → y ≤ lm i → f i y ≤ 1000) (W : rW I lm f) (R : rK I s0)
    (h : ∀ I' s, s = blF (x * a) f lm 4 0 x 0 (fun _ => 0) s0 → rK I' s → fr11 I I' → F (o6 s) I' J) : Ok G (d + 1) mX7_bestBlend 28 [some (.ref 10), none, none, none, some (.int (nI x)), some (.int (nI a)), some (.int (o6 s0)), some (.int (nI 0)), none, none, none, none, none] [] I J P K n (kI P K n F) := by
  have i0 := hlm 0 (by decide)
  have hst : blF (x * a) f lm 4 0 x 0 (fun _ => 0) s0 = it (fun y s => blF (x * a) f lm 3 1 (x - y) (0 + f 0 y) (up (fun _ => 0) 0 y) s) ((if x ≤ lm 0 then x else lm 0) + 1) s0 := rfl
  have hN : (if x ≤ lm 0 then x else lm 0) = lm 0 := by split <;> omega
  rw [hN] at hst
  have key := loopN (lm 0 + 1) (fun y => ∀ I' s, s = it (fun y s => blF (x * a) f lm 3 1 (x - y) (0 + f 0 y) (up (fun _ => 0) 0 y) s) y s0 → rK I' s → fr11 I I' → Ok G (d + 1) mX7_bestBlend 28 [some (.ref 10), none, none, none, some (.int (nI x)), some (.int (nI a)), some (.int (o6 s)), some (.int (nI y)), none, none, none, none, none] [] I' J P K n (kI P K n F)) ?_ ?_ 0 (by omega)
  · exact key I s0 rfl R (fun _ _ _ => rfl)
  · intro I' s es R' fr
    have W' := rW_fr W fr
    refine bX7_bestBlend_28 hX _ _ _ _ ?_
    rw [W'.1 0 (by decide)]
    exact br_t (nI_lt (by omega) (by omega)) (h I' s (es.trans hst.symm) R' fr)
  · intro y hy ih I' s es R' fr
    have W' := rW_fr W fr
    have st : it (fun y s => blF (x * a) f lm 3 1 (x - y) (0 + f 0 y) (up (fun _ => 0) 0 y) s) (y + 1) s0 = blF (x * a) f lm 3 1 (x - y) (f 0 y) (up (fun _ => 0) 0 y) s := by rw [es, ← Nat.zero_add (f 0 y)]; rfl
    rw [st] at ih
    refine bX7_bestBlend_28 hX _ _ _ _ ?_
    rw [W'.1 0 (by decide)]
    refine br_f (nI_nlt (by omega) (by omega)) ?_
    exact C_blend42 (row := up (fun _ => 0) 0 y) hX hx ha hlm hfb W' (by omega) (up_s _ _ _) R' (fun I2 s2 e2 R2 f2 => ih I2 s2 e2 R2 (fr11_tr fr f2))
/-- the class blends as the reference does -/
theorem C_bestBlend {s : Nat} (hX : shX P K) (S : sC P K c l) (L : rL I l hd) (C : rC I c hd so) (w : wf hd so) (hs : s < hd 0) (hx : 1 ≤ x ∧ x ≤ 20) (ha : a < 40) (hxs : x ≤ ssc hd (ltr so) s) (h : ∀ I', I' 10 1 = nI (hd (5 + s)) → (∀ k, k < hd (5 + s) → I' 11 k = nI (bRow (blR hd so s x a) k)) → (∀ b k, ¬ (5 ≤ b ∧ b ≤ 6) → ¬ (13 ≤ b ∧ b ≤ 17) → b ≠ 11 → ¬ (b = 10 ∧ k = 1) → I' b k = I b k) → F (nI (bo (blR hd so s x a))) I' J) : ckI G (d + 3) mX7_bestBlend [.ref 10, .ref c, .ref 4, .int (nI s), .int (nI x), .int (nI a)] I J P K n F := by
  have h0 := w.1
  have l34 := S.2.2.2.2.1
  have hsz := (w.2.1 s hs).2.1
  refine bX7_bestBlend_0 hX _ _ _ _ S.1 (C_fillRows hX S L C w hs hx.2 (fun I1 g1 g2 g3 => ⟨l, S.2.1, S.2.2.1, nI_inN (by omega) (by decide), ?_⟩))
  rw [nI_ck (by omega), g3 (l + 2) s (by omega) (by omega), (L.2.1 s hs).1]
  generalize hB : u2 I1 10 1 (nI (hd (5 + s))) = B
  have bo1 : ∀ b k, ¬ (b = 10 ∧ k = 1) → B b k = I1 b k := fun b k hb => by rw [← hB]; simp only [u2]; rw [if_neg hb]
  have WB : rW B (lm4 hd so s x) (f4 hd so s) := ⟨fun i hi => (bo1 17 i (by omega)).trans (g1 i hi), fun i y hi hy => (bo1 (13 + i) y (by omega)).trans (g2 i y hi hy)⟩
  have hfb : ∀ i y, i < 4 → y ≤ lm4 hd so s x i → f4 hd so s i y ≤ 1000 := fun i y hi hy => by
    unfold f4
    unfold lm4 at hy
    split
    · rename_i q
      rw [if_pos q] at hy
      have hk := wf_in w hs q
      have : agp so (fst' hd s + i) y ≤ 39 * y := agp_le w (by split at hy <;> omega)
      have : y ≤ 20 := by split at hy <;> omega
      omega
    · omega
  refine C_blend28 (s0 := none) hX hx.2 ha (fun i _ => lm4_le) hfb WB (fun p hp => by cases hp) (fun I2 s2 e2 R2 f2 => ?_)
  have eq : eqS (hd (5 + s)) s2 (blR hd so s x a) := by
    rw [e2]
    have e4 : 4 = hd (5 + s) + (4 - hd (5 + s)) := by omega
    have := eqS_F (m := hd (5 + s)) (A := x * a) (x := x) (f := f4 hd so s) (f' := fun j y => agp so (fst' hd s + j) y) (lim := lm4 hd so s x) (lim' := fun j => ltr so (fst' hd s + j)) (fun i hi => by unfold lm4; rw [if_neg (by omega)]) (fun i hi => by unfold f4; rw [if_neg (by omega)]) (fun i hi => by unfold lm4; rw [if_pos hi]) (fun i y hi => by unfold f4; rw [if_pos hi]) (4 - hd (5 + s)) (hd (5 + s)) 0 x 0 (fun _ => 0) (fun _ => 0) none none (by omega) (Nat.le_refl _) (fun _ _ => rfl) (Or.inl ⟨rfl, rfl⟩)
    rw [← e4] at this
    exact this
  have ns := blR_some w hs hx.2 ha hxs
  rcases eq with ⟨-, e⟩ | ⟨p, q, e1, e3, e5, e6⟩
  · exact absurd e ns
  · have hh := h I2 ?_ (fun k hk => ?_) (fun b k b1 b2 b3 b4 => ?_)
    · rw [e3] at hh
      rw [e1]
      show F (nI p.1) I2 J
      rw [e5]; exact hh
    · rw [f2 10 1 (by decide), ← hB, u2_s]
    · rw [e3]
      rw [(R2 p e1).2 k (by omega), e6 k hk]; rfl
    · rw [f2 b k b3, bo1 b k b4]; exact g3 b k b1 b2
end BlendD
