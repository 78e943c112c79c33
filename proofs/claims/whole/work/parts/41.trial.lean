/-! the reference: ripe, plan -/
def whl (ok : (Nat → Nat) → Bool) (stp : (Nat → Nat) → Nat → Nat) : Nat → (Nat → Nat) → Nat → Option Nat
  | 0, so, t => if ok so then some t else none
  | m + 1, so, t => if ok so then some t else whl ok stp m (stp so) (t + 1)
def oN (o : Option Nat) : Int32 := match o with
  | none => -1
  | some t => nI t
theorem oN_tf (b : Bool) (t : Nat) : oN (if b then some t else none) = if b then nI t else -1 := by cases b <;> rfl
def ripB (k a : Nat) (so : Nat → Nat) : Bool := decide (a * ltr so k ≤ ags so k)
def oldB (hd : Nat → Nat) (a : Nat) (so : Nat → Nat) : Bool := decide (0 < ssc hd (ltr so) 0) && decide (a * ssc hd (ltr so) 0 ≤ ssc hd (ags so) 0)
def plD (hd : Nat → Nat) (m : Nat) (so : Nat → Nat) : Nat → Nat := it (fun k so => tak so k (if m ≤ ltr so k then m else ltr so k)) (hd 5) so
def plR (hd : Nat → Nat) (so : Nat → Nat) : Nat → Nat := it (fun s so => if wRun hd so s = 0 then aRun hd so s else so) (hd 0) so
def plT (hd : Nat → Nat) (so : Nat → Nat) : Nat → Nat := if wTop hd so = 0 then aTop hd so else so
def aPlan (hd : Nat → Nat) (m : Nat) (so : Nat → Nat) : Nat → Nat := aYear hd (plT hd (plR hd (plD hd m so)))
def vRipe (hd so : Nat → Nat) (x a : Int32) : Int32 := if inB x (hd 1) && inB a 40 && decide (ltr so (cl x) ≠ 0) then oN (whl (ripB (cl x) (cl a)) (aYear hd) (39 - so 0) so 0) else -1
def vPlan (hd so : Nat → Nat) (m a : Int32) : Int32 := if decide (hd 0 ≠ 0) && isB m 0 400 && inB a 40 then oN (whl (oldB hd (cl a)) (aPlan hd (cl m)) (39 - so 0) so 0) else -1
def frP (I I' : sI) : Prop := ∀ c k, c ≠ 97 → ¬ (102 ≤ c ∧ c ≤ 107) → I' c k = I c k
theorem plD_inv {hd so : Nat → Nat} (w : wf hd so) (m : Nat) : ∀ i, i ≤ hd 5 → wf hd (it (fun k so => tak so k (if m ≤ ltr so k then m else ltr so k)) i so) ∧ it (fun k so => tak so k (if m ≤ ltr so k then m else ltr so k)) i so 0 = so 0 :=
  it_inv (f := fun k so => tak so k (if m ≤ ltr so k then m else ltr so k)) (a := so) (fun _ s => wf hd s ∧ s 0 = so 0) ⟨w, rfl⟩ (fun k hk b hb => ⟨wf_tak hb.1 (by split <;> omega), (tak_lo (by decide)).trans hb.2⟩)
theorem wRun_0 {hd so : Nat → Nat} {s : Nat} (hs : s < hd 0) (h : wRun hd so s = 0) : s + 1 < hd 0 ∧ ssc hd (lck hd so) s ≤ ssc hd (ltr so) (s + 1) := by
  unfold wRun at h
  split at h
  · cases h
  · split at h
    · cases h
    · split at h
      · cases h
      · omega
theorem wRun_le (hd so : Nat → Nat) (s : Nat) : wRun hd so s ≤ 3 := by
  unfold wRun
  repeat' split
  all_goals omega
theorem wTop_le (hd so : Nat → Nat) : wTop hd so ≤ 1 := by
  unfold wTop
  repeat' split
  all_goals omega
theorem wf_run {hd so : Nat → Nat} (w : wf hd so) {s : Nat} (hs : s + 1 < hd 0) (hL : ssc hd (lck hd so) s ≤ ssc hd (ltr so) (s + 1)) : wf hd (aRun hd so s) ∧ aRun hd so s 0 = so 0 := by
  obtain ⟨q1, q2, -⟩ := rnF_inv w hs hL (hd (5 + s)) (Nat.le_refl _)
  exact ⟨q1, q2⟩
theorem plR_inv {hd so : Nat → Nat} (w : wf hd so) : ∀ i, i ≤ hd 0 → wf hd (it (fun s so => if wRun hd so s = 0 then aRun hd so s else so) i so) ∧ it (fun s so => if wRun hd so s = 0 then aRun hd so s else so) i so 0 = so 0 :=
  it_inv (f := fun s so => if wRun hd so s = 0 then aRun hd so s else so) (a := so) (fun _ s => wf hd s ∧ s 0 = so 0) ⟨w, rfl⟩ (fun k hk b hb => by
    show wf hd (if wRun hd b k = 0 then aRun hd b k else b) ∧ (if wRun hd b k = 0 then aRun hd b k else b) 0 = so 0
    split
    · rename_i e
      have q := wRun_0 hk e
      have q2 := wf_run hb.1 q.1 q.2
      exact ⟨q2.1, q2.2.trans hb.2⟩
    · exact hb)
theorem plT_inv {hd so : Nat → Nat} (w : wf hd so) (h0 : 0 < hd 0) : wf hd (plT hd so) ∧ plT hd so 0 = so 0 := by
  unfold plT
  split
  · exact wf_top w h0 _ (Nat.le_refl _)
  · exact ⟨w, rfl⟩
theorem wf_plan {hd so : Nat → Nat} (w : wf hd so) (h0 : 0 < hd 0) (hy : so 0 < 39) (m : Nat) : wf hd (aPlan hd m so) ∧ aPlan hd m so 0 = so 0 + 1 := by
  have a := plD_inv w m (hd 5) (Nat.le_refl _)
  have b := plR_inv a.1 (hd 0) (Nat.le_refl _)
  have c := plT_inv b.1 h0
  have e : plT hd (plR hd (plD hd m so)) 0 = so 0 := (c.2.trans b.2).trans a.2
  exact ⟨wf_year c.1 (by have : plT hd (plR hd (plD hd m so)) 0 < 39 := by omega
                         exact this), by unfold aPlan; rw [aYear_0, e]⟩
section ModTrial
variable {G : gG} {d : Nat} {I : sI} {J : sJ} {P : sP} {K : sK} {n : Nat} {F : Int32 → sI → sJ → Prop} {FV : sI → sJ → Prop} {hd so : Nat → Nat}
theorem frP_of {I I' I2 : sI} {so : Nat → Nat} (S : soM I so) (h1 : ∀ a k, a ≠ 97 → ¬ (a = 93 ∧ 815 ≤ k ∧ k < 1678) → ¬ (102 ≤ a ∧ a ≤ 107) → I' a k = I a k) (h2 : soM I2 so) (h3 : frS I' I2) : frP I I2 := by
  intro c k hc hc2
  by_cases q : c = 93 ∧ 815 ≤ k ∧ k < 1678
  · obtain ⟨e, e1, e2⟩ := q
    subst e
    have a1 := h2 (k - 815) (by omega)
    have a2 := S (k - 815) (by omega)
    rw [show 815 + (k - 815) = k by omega] at a1 a2
    rw [a1, a2]
  · rw [h3 c k q]; exact h1 c k hc q hc2
/-- what a trial may touch -/
def frT (I I' : sI) : Prop := ∀ a k, a ≠ 97 → ¬ (a = 93 ∧ 815 ≤ k ∧ k < 1678) → ¬ (102 ≤ a ∧ a ≤ 107) → I' a k = I a k
theorem frT_93 {I I' I2 : sI} (h : frT I I') (f : fr93 I' I2) : frT I I2 := by
  intro a k h1 h2 h3
  rw [← h a k h1 h2 h3]
  by_cases q : a = 93
  · subst q; exact f.2 k (by omega)
  · exact f.1 a k q h3
theorem rM_97 {I I' : sI} (R : rM I hd so) (h : ∀ a k, a ≠ 97 → I' a k = I a k) : rM I' hd so := ⟨fun k hk => (h 93 k (by decide)).trans (R.1 k hk), fun j hj => (h 93 _ (by decide)).trans (R.2 j hj)⟩
theorem M_ripe75 {I0 : sI} {so0 : Nat → Nat} {k a t : Nat} (hM : shM P K) (R : rM I hd so) (w : wf hd so) (hk : k < hd 1) (ha : a < 40) (S : soM I0 so0) (A : ∀ j, j < 863 → I 97 j = nI (so0 j)) (f : frT I0 I) (h : ∀ I', frP I0 I' → F (if ripB k a so then nI t else -1) I' J) : Ok G (d + 3) mX12_ripe 75 [some (.ref 91), some (.int (nI k)), some (.int (nI a)), some (.int (nI t)), none] [] I J P K n (kI P K n F) := by
  have hc := wf_casks w
  have hl := wf_ltr w hk
  have hg := ags_le w hk
  have hm : a * ltr so k ≤ 39 * 400 := Nat.mul_le_mul (by omega) hl
  refine bX12_ripe_75 hM _ _ _ (M_agesOf hM R w hk (M_litresOf hM R (by omega) ?_))
  rw [i_mul]
  unfold ripB at h
  by_cases q : a * ltr so k ≤ ags so k
  · simp only [q, decide_true, if_true] at h
    exact br_f (nI_nlt q (by omega)) (M_takeBack hM A (fun I2 h1 h2 => br_f (by decide) (h I2 (frP_of S f h1 h2))))
  · simp only [q, decide_false, Bool.false_eq_true, if_false] at h
    exact br_t (nI_lt (by omega) (by omega)) (M_takeBack hM A (fun I2 h1 h2 => br_t rfl (h I2 (frP_of S f h1 h2))))
theorem M_ripe37 {so0 : Nat → Nat} {I0 : sI} {k a : Nat} (hM : shM P K) (hk : k < hd 1) (ha : a < 40) (S : soM I0 so0) (m : Nat) : ∀ (so : Nat → Nat) (t : Nat) (I : sI), so 0 + m = 39 → rM I hd so → wf hd so → (∀ j, j < 863 → I 97 j = nI (so0 j)) → frT I0 I → (∀ I', frP I0 I' → F (oN (whl (ripB k a) (aYear hd) m so t)) I' J) → Ok G (d + 4) mX12_ripe 37 [some (.ref 91), some (.int (nI k)), some (.int (nI a)), some (.int (nI t)), none] [] I J P K n (kI P K n F) := by
  induction m with
  | zero =>
    intro so t I hy R w A f h
    simp only [whl, oN_tf] at h
    refine bX12_ripe_37 hM _ _ _ (br_t ?_ (M_ripe75 hM R w hk ha S A f h))
    rw [rM_year R, show so 0 = 39 by omega]; decide
  | succ m ih =>
    intro so t I hy R w A f h
    have hc := wf_casks w
    have hl := wf_ltr w hk
    have hg := ags_le w hk
    have hm : a * ltr so k ≤ 39 * 400 := Nat.mul_le_mul (by omega) hl
    refine bX12_ripe_37 hM _ _ _ (br_f ?_ (M_agesOf hM R w hk (M_litresOf hM R (by omega) ?_)))
    · rw [rM_year R]; exact nI_ge (b := 39) (by omega) (by decide)
    · rw [i_mul]
      by_cases q : a * ltr so k ≤ ags so k
      · have e : ripB k a so = true := by simp [ripB, q]
        simp only [whl, e, if_true] at h
        exact br_t (nI_le q (by omega)) (M_ripe75 hM R w hk ha S A f (by rw [e]; exact h))
      · have e : ripB k a so = false := by simp [ripB]; omega
        simp only [whl, e, Bool.false_eq_true, if_false] at h
        refine br_f (nI_ge (by omega) (by omega)) (M_oneYear hM R w (by omega) (fun I2 R2 f2 => ?_))
        rw [nI_1]
        exact ih _ _ _ (by rw [aYear_0]; omega) R2 (wf_year w (by omega)) (fun j hj => (f2.1 97 j (by decide) (by omega)).trans (A j hj)) (frT_93 f f2) h
theorem M_ripe (x a : Int32) (hM : shM P K) (R : rM I hd so) (w : wf hd so) (h : ∀ I', frP (u2 I 91 0 0) I' → F (vRipe hd so x a) I' J) : ckI G (d + 4) mX12_ripe [.ref 91, .int x, .int a] I J P K n F := by
  have R1 := rM_91 R 0 0
  have hc := wf_casks w
  have hy : so 0 ≤ 39 := w.2.2.2.2.2.2.1
  unfold vRipe at h
  refine bX12_ripe_0 hM _ _ (M_isCask x hM R1 w (b01n (fun e => ?_) (fun e => M_isVintage a (b01n (fun e2 => ?_) (fun e2 => ?_)))))
  · simp only [e, Bool.false_and, Bool.false_eq_true, if_false] at h
    exact h _ (fun _ _ _ _ => rfl)
  · simp only [e2, Bool.and_false, Bool.false_and, Bool.false_eq_true, if_false] at h
    exact h _ (fun _ _ _ _ => rfl)
  · obtain ⟨k, hk, rfl⟩ := inB_t e
    obtain ⟨a, ha, rfl⟩ := inB_t e2
    rw [e, e2, cl_nI (by omega), cl_nI (by omega)] at h
    have hl := wf_ltr w hk
    refine M_litresOf hM R1 (by omega) ?_
    by_cases q : ltr so k = 0
    · simp only [q, ne_eq, not_true, decide_false, Bool.and_false, Bool.false_eq_true, if_false] at h
      exact br_t (by rw [q]; rfl) (h _ (fun _ _ _ _ => rfl))
    · simp only [q, ne_eq, not_false_eq_true, decide_true, Bool.and_self, if_true] at h
      refine br_f (nI_ne0 (by omega) (by omega)) (M_layAside hM R1.2 (fun I1 A f1 => ?_))
      exact M_ripe37 (t := 0) (m := 39 - so 0) hM hk ha R1.2 so I1 (by omega) (rM_97 R1 f1) w A (fun a k h1 _ _ => f1 a k h1) h
theorem M_isOld {a : Nat} (ha : a < 40) (hM : shM P K) (R : rM I hd so) (w : wf hd so) (h0 : 0 < hd 0) (h : F (b01 (oldB hd a so)) I J) : ckI G (d + 5) mX12_isOld [.ref 91, .int (nI a)] I J P K n F := by
  have hl := ssc_le w h0 (f := ltr so) (fun k hk => wf_ltr w hk)
  have hg := ssc_ags w h0
  have hm : a * ssc hd (ltr so) 0 ≤ 39 * 1600 := Nat.mul_le_mul (by omega) hl
  unfold oldB at h
  refine bX12_isOld_0 hM _ (M_sumOf (s := 0) 0 (ltr so) hM R w h0 (Or.inl ⟨rfl, rfl⟩) ?_)
  by_cases q : ssc hd (ltr so) 0 = 0
  · rw [q] at h ⊢
    exact br_t (by decide) h
  · have e0 : decide (0 < ssc hd (ltr so) 0) = true := decide_eq_true (by omega)
    rw [e0, Bool.true_and] at h
    refine br_f (nI_ge (a := 0) (by omega) (by omega)) (M_sumOf (s := 0) 2 (ags so) hM R w h0 (Or.inr (Or.inr ⟨rfl, rfl⟩)) (M_sumOf (s := 0) 0 (ltr so) hM R w h0 (Or.inl ⟨rfl, rfl⟩) ?_))
    rw [i_mul]
    by_cases q2 : a * ssc hd (ltr so) 0 ≤ ssc hd (ags so) 0
    · rw [decide_eq_true q2] at h
      exact br_f (nI_nlt q2 (by omega)) h
    · rw [decide_eq_false q2] at h
      exact br_t (nI_lt (by omega) (by omega)) h
theorem M_planYear {m : Nat} (hm : m < 2147483648) (hM : shM P K) (R : rM I hd so) (w : wf hd so) (h0 : 0 < hd 0) (hy : so 0 < 39) (h : ∀ I', rM I' hd (aPlan hd m so) → fr93 I I' → FV I' J) : ckV G (d + 7) mX12_planYear [.ref 91, .int (nI m)] I J P K n FV := by
  have hc := wf_casks w
  have h5 := w.1
  have vD := plD_inv w m
  have wD := vD (hd 5) (Nat.le_refl _)
  have vR := plR_inv wD.1
  have wR := vR (hd 0) (Nat.le_refl _)
  have m5 := (w.2.1 0 h0).2.1
  -- the last: runs, tops, a year
  have fin : ∀ I1, rM I1 hd (plD hd m so) → fr93 I I1 → Ok G (d + 7) mX12_planYear 47 [some (.ref 91), none, some (.int (nI 0))] [] I1 J P K n (kV P K n FV) := by
    have key := loopN (hd 0) (fun i => ∀ I', rM I' hd (it (fun s so => if wRun hd so s = 0 then aRun hd so s else so) i (plD hd m so)) → fr93 I I' → Ok G (d + 7) mX12_planYear 47 [some (.ref 91), none, some (.int (nI i))] [] I' J P K n (kV P K n FV)) ?_ ?_ 0 (by omega)
    · exact key
    · intro I' R' f'
      have e0 := R'.1 0 (by decide)
      refine bX12_planYear_47 hM _ ?_
      rw [e0]
      refine br_t (nI_le (Nat.le_refl _) (by omega)) (M_why (t := 2) (x := 0) (y := 0) (z := 0) hM R' wR.1 (Or.inr (Or.inr (Or.inl rfl))) ?_)
      have eW : aWhy hd (it (fun s so => if wRun hd so s = 0 then aRun hd so s else so) (hd 0) (plD hd m so)) 2 0 0 0 = wTop hd (plR hd (plD hd m so)) := rfl
      rw [eW]
      have wT := plT_inv wR.1 h0
      have yT : plT hd (plR hd (plD hd m so)) 0 < 39 := by
        have e : plT hd (plR hd (plD hd m so)) 0 = so 0 := (wT.2.trans wR.2).trans wD.2
        omega
      have hle := wTop_le hd (plR hd (plD hd m so))
      by_cases q : wTop hd (plR hd (plD hd m so)) = 0
      · have eT : plT hd (plR hd (plD hd m so)) = aTop hd (plR hd (plD hd m so)) := by unfold plT; rw [if_pos q]
        refine br_t (by rw [q]; rfl) (M_tops hM R' wR.1 h0 (fun I2 R2 f2 => M_oneYear hM R2 (eT ▸ wT.1) (eT ▸ yT) (fun I3 R3 f3 => h I3 ?_ (fr93_tr f' (fr93_tr f2 f3)))))
        unfold aPlan
        rw [eT]; exact R3
      · have eT : plT hd (plR hd (plD hd m so)) = plR hd (plD hd m so) := by unfold plT; rw [if_neg q]
        refine br_f (nI_ne0 (by omega) (by omega)) (M_oneYear hM R' wR.1 (by rw [eT] at yT; exact yT) (fun I3 R3 f3 => h I3 ?_ (fr93_tr f' f3)))
        unfold aPlan
        rw [eT]; exact R3
    · intro i hi ih I' R' f'
      have wi := vR i (by omega)
      obtain ⟨s1, hs1⟩ : ∃ s1, it (fun s so => if wRun hd so s = 0 then aRun hd so s else so) i (plD hd m so) = s1 := ⟨_, rfl⟩
      have hs1' : it (fun s so => if wRun hd so s = 0 then aRun hd so s else so) i (it (fun k so => tak so k (if m ≤ ltr so k then m else ltr so k)) (hd 5) so) = s1 := hs1
      have e : it (fun s so => if wRun hd so s = 0 then aRun hd so s else so) (i + 1) (plD hd m so) = if wRun hd s1 i = 0 then aRun hd s1 i else s1 := by rw [← hs1]; rfl
      rw [e] at ih
      rw [hs1] at R'
      rw [hs1'] at wi
      have e0 := R'.1 0 (by decide)
      refine bX12_planYear_47 hM _ ?_
      rw [e0, nI_1]
      have hle := wRun_le hd s1 i
      refine br_f (nI_ge hi (by omega)) (M_whyRun hM R' wi.1 hi ?_)
      by_cases q : wRun hd s1 i = 0
      · rw [if_pos q] at ih
        have q2 := wRun_0 hi q
        exact br_t (by rw [q]; rfl) (M_runs hM R' wi.1 q2.1 q2.2 (fun I2 R2 f2 => ih I2 R2 (fr93_tr f' f2)))
      · rw [if_neg q] at ih
        exact br_f (nI_ne0 (by omega) (by omega)) (ih I' R' f')
  have key := loopN (hd 5) (fun i => ∀ I', rM I' hd (it (fun k so => tak so k (if m ≤ ltr so k then m else ltr so k)) i so) → fr93 I I' → Ok G (d + 7) mX12_planYear 2 [some (.ref 91), some (.int (nI m)), some (.int (nI i))] [] I' J P K n (kV P K n FV)) ?_ ?_ 0 (by omega)
  · exact bX12_planYear_0 _ (key I R (fr93_rf I))
  · intro I' R' f'
    have e5 := R'.1 5 (by decide)
    refine bX12_planYear_2 hM _ _ ?_
    rw [e5]
    exact br_t (nI_le (Nat.le_refl _) (by have : hd (5 + 0) ≤ 4 := m5
                                          have : hd 5 ≤ 4 := this
                                          omega)) (fin I' R' f')
  · intro i hi ih I' R' f'
    have m5' : hd 5 ≤ 4 := m5
    have hk : i < hd 1 := by
      have := wf_in w h0 (i := i) hi
      have e : fst' hd 0 = 0 := rfl
      omega
    have wi := vD i (by omega)
    obtain ⟨s1, hs1⟩ : ∃ s1, it (fun k so => tak so k (if m ≤ ltr so k then m else ltr so k)) i so = s1 := ⟨_, rfl⟩
    have e : it (fun k so => tak so k (if m ≤ ltr so k then m else ltr so k)) (i + 1) so = tak s1 i (if m ≤ ltr s1 i then m else ltr s1 i) := by rw [← hs1]; rfl
    rw [e] at ih
    rw [hs1] at R' wi
    have e5 := R'.1 5 (by decide)
    have hl := wf_ltr wi.1 hk
    refine bX12_planYear_2 hM _ _ ?_
    rw [e5, nI_1]
    exact br_f (nI_ge hi (by omega)) (M_wineAt i (M_litresOf hM R' (by omega) (M_least m _ hm (by omega) (M_pourOut hM R' wi.1 hk (by split <;> omega) (Or.inr rfl) (fun I2 R2 f2 _ _ => ih I2 R2 (fr93_tr f' f2))))))
theorem M_plan73 {I0 : sI} {so0 : Nat → Nat} {a t : Nat} (hM : shM P K) (R : rM I hd so) (w : wf hd so) (h0 : 0 < hd 0) (ha : a < 40) (S : soM I0 so0) (A : ∀ j, j < 863 → I 97 j = nI (so0 j)) (f : frT I0 I) (h : ∀ I', frP I0 I' → F (if oldB hd a so then nI t else -1) I' J) : Ok G (d + 6) mX12_plan 73 [some (.ref 91), none, some (.int (nI a)), some (.int (nI t)), none] [] I J P K n (kI P K n F) := by
  refine bX12_plan_73 hM _ _ (M_isOld ha hM R w h0 (M_takeBack hM A (fun I2 h1 h2 => b01n (fun e => ?_) (fun e => ?_))))
  · rw [e] at h; exact h I2 (frP_of S f h1 h2)
  · rw [e] at h; exact h I2 (frP_of S f h1 h2)
theorem M_plan41 {so0 : Nat → Nat} {I0 : sI} {b a : Nat} (hM : shM P K) (hb : b < 2147483648) (ha : a < 40) (h0 : 0 < hd 0) (S : soM I0 so0) (m : Nat) : ∀ (so : Nat → Nat) (t : Nat) (I : sI), so 0 + m = 39 → rM I hd so → wf hd so → (∀ j, j < 863 → I 97 j = nI (so0 j)) → frT I0 I → (∀ I', frP I0 I' → F (oN (whl (oldB hd a) (aPlan hd b) m so t)) I' J) → Ok G (d + 8) mX12_plan 41 [some (.ref 91), some (.int (nI b)), some (.int (nI a)), some (.int (nI t)), none] [] I J P K n (kI P K n F) := by
  induction m with
  | zero =>
    intro so t I hy R w A f h
    simp only [whl, oN_tf] at h
    refine bX12_plan_41 hM _ _ _ (br_t ?_ (M_plan73 hM R w h0 ha S A f h))
    rw [rM_year R, show so 0 = 39 by omega]; decide
  | succ m ih =>
    intro so t I hy R w A f h
    refine bX12_plan_41 hM _ _ _ (br_f ?_ (M_isOld ha hM R w h0 (b01n (fun e => ?_) (fun e => ?_))))
    · rw [rM_year R]; exact nI_ge (b := 39) (by omega) (by decide)
    · simp only [whl, e, Bool.false_eq_true, if_false] at h
      refine M_planYear hb hM R w h0 (by omega) (fun I2 R2 f2 => ?_)
      have wp := wf_plan w h0 (by omega) b
      rw [nI_1]
      exact ih _ _ _ (by omega) R2 wp.1 (fun j hj => (f2.1 97 j (by decide) (by omega)).trans (A j hj)) (frT_93 f f2) h
    · simp only [whl, e, if_true] at h
      exact M_plan73 hM R w h0 ha S A f (by rw [e]; exact h)
theorem M_plan (x a : Int32) (hM : shM P K) (R : rM I hd so) (w : wf hd so) (h : ∀ I', frP (u2 I 91 0 0) I' → F (vPlan hd so x a) I' J) : ckI G (d + 8) mX12_plan [.ref 91, .int x, .int a] I J P K n F := by
  have R1 := rM_91 R 0 0
  have h5 := w.1
  have hy : so 0 ≤ 39 := w.2.2.2.2.2.2.1
  unfold vPlan at h
  refine bX12_plan_0 hM _ _ ?_
  rw [R.1 0 (by decide)]
  by_cases q : hd 0 = 0
  · simp only [q, ne_eq, not_true, decide_false, Bool.false_and, Bool.false_eq_true, if_false] at h
    exact br_t (by rw [q]; rfl) (h _ (fun _ _ _ _ => rfl))
  · simp only [q, ne_eq, not_false_eq_true, decide_true, Bool.true_and] at h
    refine br_f (nI_ne0 (by omega) (by omega)) (M_isIn _ _ _ (b01n (fun e => ?_) (fun e => M_isVintage a (b01n (fun e2 => ?_) (fun e2 => ?_)))))
    · simp only [e, Bool.false_and, Bool.false_eq_true, if_false] at h
      exact h _ (fun _ _ _ _ => rfl)
    · simp only [e2, Bool.and_false, Bool.false_eq_true, if_false] at h
      exact h _ (fun _ _ _ _ => rfl)
    · obtain ⟨b, hb1, hb2, rfl⟩ := isB_t (a := 0) (b := 400) (by decide) (by decide) e
      obtain ⟨a, ha, rfl⟩ := inB_t e2
      rw [cl_nI (by omega), cl_nI (by omega)] at h
      simp only [e, e2, Bool.and_self, if_true] at h
      refine M_layAside hM R1.2 (fun I1 A f1 => ?_)
      exact M_plan41 (t := 0) (m := 39 - so 0) hM (by omega) ha (by omega) R1.2 so I1 (by omega) (rM_97 R1 f1) w A (fun a k h1 _ _ => f1 a k h1) h
end ModTrial
