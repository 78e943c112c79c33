/-! the class: a book is lived -/
theorem lvA_bad {hd so : Nat → Nat} {t x y z : Nat} (h : (lvA hd so t x y z).1 ≠ 0) : (lvA hd so t x y z).2 = so := by
  unfold lvA at h ⊢
  split
  · rename_i q; rw [if_pos q] at h; exact absurd rfl h
  · rfl
theorem lvL_bad {hd so : Nat → Nat} {b : bL} (h : (lvL hd so b).1 ≠ 0) : (lvL hd so b).2 = so := by
  unfold lvL at h ⊢
  split
  · rename_i q
    rw [if_pos q] at h
    split
    · rename_i q2; rw [if_pos q2] at h; exact absurd rfl h
    · rfl
  · rename_i q
    rw [if_neg q] at h
    split
    · rename_i q2; rw [if_pos q2] at h; exact lvA_bad h
    · rename_i q2
      rw [if_neg q2] at h
      split
      · rename_i q3; rw [if_pos q3] at h; exact lvA_bad h
      · rename_i q3
        rw [if_neg q3] at h
        split
        · rfl
        · rename_i k ek
          rw [ek] at h
          dsimp only at h
          split
          · rename_i q4
            rw [if_pos q4] at h
            split
            · rfl
            · rename_i j ej
              rw [ej] at h
              exact lvA_bad h
          · rename_i q4
            rw [if_neg q4] at h
            exact lvA_bad h
section Lv6
variable {G : gG} {d : Nat} {I I0 : sI} {J J0 : sJ} {P : sP} {K : sK} {n : Nat} {F : Int32 → sI → sJ → Prop} {hd so : Nat → Nat} {c l i : Nat}
theorem C_behind {b w : Nat} (hw : w < 1000) (h : F (nI (if w = 0 then 0 else b + w)) I J) : ckI G d mX0_behind [.int (nI b), .int (nI w)] I J P K n F := by
  refine bX0_behind_0 _ _ ?_
  by_cases c : w = 0
  · rw [if_pos c] at h
    exact br_t (by rw [c]; rfl) h
  · rw [if_neg c] at h
    refine br_f (nI_ne0 (by omega) (by omega)) ?_
    rw [i_add]
    exact h
theorem lvA_1 {hd so : Nat → Nat} {t x y z : Nat} : (lvA hd so t x y z).1 = (if aWhy hd so t x y z = 0 then 0 else 10 * t + aWhy hd so t x y z) ∧ (lvA hd so t x y z).2 = dif hd so t x y z := by
  unfold lvA dif
  split <;> exact ⟨rfl, rfl⟩
theorem aWhy_lt {t x y z : Nat} : aWhy hd so t x y z < 1000 := by
  unfold aWhy wDraw wRun wTop wTip
  repeat' split
  all_goals decide
theorem C_liveLine {b : bL} (hX : shX P K) (S : sC P K c l) (L : rL I l hd) (C : rC I c hd so) (w : wf hd so) (hi : i < 40) (B : rB6 I i b) (rg : rgB I i) (ok : okB hd b) (h : ∀ I', rC I' c hd (lvL hd so b).2 → frC c I I' → F (nI (lvL hd so b).1) I' J) : ckI G (d + 6) mX0_liveLine [.ref 22, .ref c, .ref 4, .int (nI i)] I J P K n F := by
  obtain ⟨⟨s0, s1, s2⟩, m0, m1, m2⟩ := rg
  obtain ⟨o1, o2, o3, o4, o5, o6, o7⟩ := ok
  obtain ⟨B1, B2, B3, B4, B5⟩ := B
  have vi : vp_in (nI i) 40 := nI_inN hi (by decide)
  have w1 := w.1
  refine bX0_liveLine_0 hX _ _ S.1 ⟨l, S.2.1, S.2.2.1, vi, vi, ?_⟩
  rw [nI_ck (by omega), s2, m2]
  refine C_caskOf S.2.2.1 L w (by omega) (by omega) ⟨vi, ?_⟩
  rw [B1]
  unfold lvL at h
  obtain ⟨b1, bs, bm, bs2, bm2, bz⟩ := b
  dsimp only at *
  obtain rfl | rfl | rfl | rfl | rfl : b1 = 0 ∨ b1 = 1 ∨ b1 = 2 ∨ b1 = 3 ∨ b1 = 4 := by omega
  · rw [if_neg (by decide), if_neg (by decide), if_neg (by decide)] at h
    have hs := o2 (Or.inl rfl)
    have e1 : s0 = bs := (nI_eq (by omega) (by omega)).mp (s2.symm.trans (B2 (Or.inl rfl)))
    have e2 : m0 = bm := (nI_eq (by omega) (by omega)).mp (m2.symm.trans (B3 (Or.inl rfl)).1)
    subst e1; subst e2
    rw [if_pos hs, (B3 (Or.inl rfl)).2]
    refine ⟨fun _ => ?_, fun z => absurd z (by decide), fun z => absurd z (by decide), fun z => absurd z (by decide), fun z => absurd rfl z⟩
    cases ek : ckO hd s0 m0 with
    | none =>
      rw [ek] at h
      exact br_t rfl (h I C (frC_rf c I))
    | some k =>
      rw [ek] at h
      dsimp only at h
      rw [if_neg (by decide), (lvA_1 (hd := hd) (so := so)).1, (lvA_1 (hd := hd) (so := so)).2] at h
      have hk := ckO_lt w hs ek
      have hcs := wf_casks w
      refine br_f (nI_nm1 (by omega)) ⟨vi, C_tryDraw (d := d + 2) hX S L C w hk o6 (fun I' g1 g2 => ?_)⟩
      have := h I' g1 g2
      split at this
      · rename_i q; rw [q]; exact this
      · rw [Nat.mul_zero, Nat.zero_add] at this; exact this
  · rw [if_neg (by decide), if_pos rfl, (lvA_1 (hd := hd) (so := so)).1, (lvA_1 (hd := hd) (so := so)).2] at h
    have hs := o2 (Or.inr (Or.inl rfl))
    refine ⟨fun z => absurd z (by decide), fun _ => ⟨vi, ?_⟩, fun z => absurd z (by decide), fun z => absurd z (by decide), fun _ z => absurd rfl z⟩
    rw [B2 (Or.inr (Or.inl rfl))]
    exact C_tryRun (d := d + 1) hX S L C w hs (fun I' g1 g2 => C_behind (b := 10) aWhy_lt (h I' g1 g2))
  · rw [if_neg (by decide), if_neg (by decide), if_pos rfl, (lvA_1 (hd := hd) (so := so)).1, (lvA_1 (hd := hd) (so := so)).2] at h
    refine ⟨fun z => absurd z (by decide), fun z => absurd z (by decide), fun _ => ?_, fun z => absurd z (by decide), fun _ _ z => absurd rfl z⟩
    exact C_tryTop (d := d + 3) hX S L C w (fun I' g1 g2 => C_behind (b := 20) aWhy_lt (h I' g1 g2))
  · rw [if_neg (by decide), if_neg (by decide), if_neg (by decide)] at h
    have hs := o2 (Or.inr (Or.inr rfl))
    have e1 : s0 = bs := (nI_eq (by omega) (by omega)).mp (s2.symm.trans (B2 (Or.inr (Or.inr rfl))))
    have e2 : m0 = bm := (nI_eq (by omega) (by omega)).mp (m2.symm.trans (B3 (Or.inr rfl)).1)
    subst e1; subst e2
    rw [if_pos hs, (B3 (Or.inr rfl)).2, (B4 rfl).1, (B4 rfl).2]
    have hs2 := o4 rfl
    refine ⟨fun z => absurd z (by decide), fun z => absurd z (by decide), fun z => absurd z (by decide), fun _ => ⟨l, S.2.1, S.2.2.1, vi, vi, C_caskOf S.2.2.1 L w (by omega) (by omega) ?_⟩, fun _ _ _ z => absurd rfl z⟩
    rw [if_pos hs2, (B3 (Or.inr rfl)).2]
    cases ek : ckO hd s0 m0 with
    | none =>
      rw [ek] at h
      exact br_t rfl (h I C (frC_rf c I))
    | some k =>
      rw [ek] at h
      dsimp only at h
      rw [if_pos rfl] at h
      have hk := ckO_lt w hs ek
      have hcs := wf_casks w
      refine br_f (nI_nm1 (by omega)) ?_
      cases ej : ckO hd bs2 bm2 with
      | none =>
        rw [ej] at h
        exact br_t rfl (h I C (frC_rf c I))
      | some j =>
        rw [ej] at h
        dsimp only at h
        rw [(lvA_1 (hd := hd) (so := so)).1, (lvA_1 (hd := hd) (so := so)).2] at h
        have hj := ckO_lt w hs2 ej
        exact br_f (nI_nm1 (by omega)) ⟨vi, C_tryTip (d := d + 2) hX S L C w hk hj o6 (fun I' g1 g2 => C_behind (b := 30) aWhy_lt (h I' g1 g2))⟩
  · rw [if_pos rfl] at h
    have w7 := w.2.2.2.2.2.2.1
    refine ⟨fun z => absurd z (by decide), fun z => absurd z (by decide), fun z => absurd z (by decide), fun z => absurd z (by decide), fun _ _ _ _ => ⟨vi, ?_⟩⟩
    rw [B5 rfl]
    refine bX0_liveYears_0 hX _ _ S.1 ?_
    have e39 : (39 : Int32) - I c 1 = nI (39 - so 0) := by rw [C.1]; exact i_sub (a := 39) w7
    rw [e39]
    by_cases q : so 0 + bz ≤ 39
    · rw [if_pos q] at h
      refine br_t (nI_le (by omega) (by omega)) (C_letYears (by omega) hX S L C w (fun I' g1 g2 => ?_))
      rw [if_pos (by omega)] at g1
      exact h I' g1 g2
    · rw [if_neg q] at h
      exact br_f (nI_ge (by omega) (by omega)) (h I C (frC_rf c I))
/-- what living a book may change -/
def frLv (c : Nat) (I I' : sI) : Prop := ∀ a k, ¬ dT c a → ¬ (a = 22 ∧ k = 7) → I' a k = I a k
theorem C_live7 {ls : Nat → bL} {cn : Nat} (hX : shX P K) (S : sC P K c l) (ok : ∀ j, okB hd (ls j)) (hcn : cn ≤ 40) : ∀ (fu k : Nat) (so : Nat → Nat) (I : sI), k + fu = cn → rL I l hd → rC I c hd so → wf hd so → I 22 6 = nI cn → I 22 7 = nI k → (∀ j, j < cn → rB6 I j (ls j)) → (∀ j, j < 40 → rgB I j) → frLv c I0 I → (∀ I', rC I' c hd (lvB hd ls fu k so).2.2 → I' 22 7 = nI (lvB hd ls fu k so).2.1 → frLv c I0 I' → F (nI (lvB hd ls fu k so).1) I' J) → Ok G (d + 7) mX0_live 7 [some (.ref 22), some (.ref c), some (.ref 4), some (.int (nI 0))] [] I J P K n (kI P K n F) := by
  intro fu
  have hc34 := S.2.2.2.1
  induction fu with
  | zero =>
    intro k so I hk L C w e6 e7 B rg fr h
    refine bX0_live_7 hX _ _ (br_t rfl ?_)
    rw [e6, e7]
    exact br_t (nI_le (by omega) (by omega)) (h I C e7 fr)
  | succ fu ih =>
    intro k so I hk L C w e6 e7 B rg fr h
    simp only [lvB] at h
    refine bX0_live_7 hX _ _ (br_t rfl ?_)
    rw [e6, e7]
    refine br_f (nI_ge (by omega) (by omega)) (C_liveLine hX S L C w (by omega) (B k (by omega)) (rg k (by omega)) (ok k) (fun I1 g1 g2 => ?_))
    have n22 : ∀ a, 22 ≤ a → a ≤ 28 → ¬ dT c a := fun a h1 h2 => by unfold dT; omega
    have q1 : ∀ a k', 22 ≤ a → a ≤ 28 → I1 a k' = I a k' := fun a k' h1 h2 => g2 a k' (n22 a h1 h2)
    have fr1 : frLv c I0 I1 := fun a k' h1 h2 => (g2 a k' h1).trans (fr a k' h1 h2)
    have hle := lvL_le (hd := hd) (so := so) (ok k).1
    by_cases z : (lvL hd so (ls k)).1 = 0
    · rw [if_pos z] at h
      rw [z]
      refine br_t rfl ?_
      rw [q1 22 7 (by decide) (by decide), e7, nI_1]
      have q2 : ∀ a k', a ≠ 22 → u2 I1 22 7 (nI (k + 1)) a k' = I1 a k' := fun a k' ha => u2_a _ _ _ _ ha
      refine ih (k + 1) _ _ (by omega) (rL_of (rL_fr S L g2) (fun a k' h1 h2 => q2 a k' (by have := S.2.2.2; omega))) ?_ (wf_lvL w (ok k)) ?_ (u2_s _ _ _ _) (fun j hj => rB6_eq (fun a h1 h2 => by rw [q2 _ _ (by omega), q1 _ _ (by omega) h2]) (B j hj)) (fun j hj => rgB_eq (fun a ha => by rw [q2 _ _ (by omega), q1 _ _ (by omega) (by omega)]) (rg j hj)) ?_ h
      · exact rC_of g1 (fun a k' h1 h2 => q2 a k' (by omega)) (wf_casks w)
      · rw [u2_k _ _ _ _ (by decide), q1 _ _ (by decide) (by decide)]; exact e6
      · intro a k' h1 h2
        have : u2 I1 22 7 (nI (k + 1)) a k' = I1 a k' := by simp only [u2]; rw [if_neg h2]
        rw [this]
        exact fr1 a k' h1 h2
    · rw [if_neg z] at h
      have nz : ¬ nI (lvL hd so (ls k)).1 = 0 := nI_ne0 (by omega) (by omega)
      refine br_f nz (bX0_live_7 hX _ _ (br_f nz (h I1 ?_ ?_ fr1)))
      · rw [lvL_bad z] at g1; exact g1
      · rw [q1 _ _ (by decide) (by decide)]; exact e7
theorem C_live {ls : Nat → bL} {cn : Nat} (hX : shX P K) (S : sC P K c l) (ok : ∀ j, okB hd (ls j)) (hcn : cn ≤ 40) (L : rL I l hd) (C : rC I c hd so) (w : wf hd so) (e6 : I 22 6 = nI cn) (B : ∀ j, j < cn → rB6 I j (ls j)) (rg : ∀ j, j < 40 → rgB I j) (h : ∀ I', rC I' c hd (lvB hd ls cn 0 so).2.2 → I' 22 7 = nI (lvB hd ls cn 0 so).2.1 → frLv c I I' → F (nI (lvB hd ls cn 0 so).1) I' J) : ckI G (d + 7) mX0_live [.ref 22, .ref c, .ref 4] I J P K n F := by
  have hc34 := S.2.2.2.1
  have q2 : ∀ a k', a ≠ 22 → u2 I 22 7 0 a k' = I a k' := fun a k' ha => u2_a _ _ _ _ ha
  refine bX0_live_0 hX _ (C_live7 (I0 := I) hX S ok hcn cn 0 so _ (by omega) (rL_of L (fun a k' h1 h2 => q2 a k' (by have := S.2.2.2; omega))) (rC_of C (fun a k' h1 h2 => q2 a k' (by omega)) (wf_casks w)) w ?_ (u2_s _ _ _ _) (fun j hj => rB6_eq (fun a h1 h2 => q2 _ _ (by omega)) (B j hj)) (fun j hj => rgB_eq (fun a ha => q2 _ _ (by omega)) (rg j hj)) (fun a k' h1 h2 => by simp only [u2]; rw [if_neg h2]) h)
  rw [u2_k _ _ _ _ (by decide)]; exact e6
end Lv6
