/-! running down, topping; why not; the reference's -/
theorem wf_top {hd so : Nat → Nat} (w : wf hd so) (h0 : 0 < hd 0) : ∀ i, i ≤ hd (5 + (hd 0 - 1)) → wf hd (it (fun i so => tpS hd so (fst' hd (hd 0 - 1) + i)) i so) ∧ it (fun i so => tpS hd so (fst' hd (hd 0 - 1) + i)) i so 0 = so 0 :=
  it_inv (f := fun i so => tpS hd so (fst' hd (hd 0 - 1) + i)) (a := so) (fun _ so' => wf hd so' ∧ so' 0 = so 0) ⟨w, rfl⟩ (n := hd (5 + (hd 0 - 1))) (fun k hk b hb => ⟨wf_tpS hb.1 (wf_in w (by omega) hk), by
    show tpS hd b _ 0 = so 0
    unfold tpS
    rw [up_n _ _ (by omega)]
    exact hb.2⟩)
/-- the shares of the casks of the next scale -/
def rAm (hd so : Nat → Nat) (s i : Nat) : Nat := shr (fun j => ltr so (fst' hd (s + 1) + j)) (hd (5 + (s + 1))) (ssc hd (lck hd so) s) i
theorem rnM_inv {hd so : Nat → Nat} (w : wf hd so) {s : Nat} (hs : s + 1 < hd 0) (hL : ssc hd (lck hd so) s ≤ ssc hd (ltr so) (s + 1)) : ∀ i, i ≤ hd (5 + (s + 1)) → wf hd (rnM hd so s i).1 ∧ (rnM hd so s i).1 0 = so 0 ∧ (∀ k, (k < fst' hd (s + 1) ∨ fst' hd (s + 1) + i ≤ k) → ∀ v, v < 40 → wn (rnM hd so s i).1 k v = wn so k v) ∧ sm (rnM hd so s i).2 40 = sm (rAm hd so s) i ∧ (∀ v, so 0 < v → v < 40 → (rnM hd so s i).2 v = 0) := by
  have ham := shr_ok (own := fun j => ltr so (fst' hd (s + 1) + j)) (m := hd (5 + (s + 1))) hL
  intro i
  induction i with
  | zero => intro _; exact ⟨w, rfl, fun _ _ _ _ => rfl, sm_zero 40, fun _ _ _ => rfl⟩
  | succ i ih =>
    intro hi
    obtain ⟨q1, q2, q3, q4, q5⟩ := ih (by omega)
    have hk := wf_in w hs (i := i) (by omega)
    have e : rnM hd so s (i + 1) = (tak (rnM hd so s i).1 (fst' hd (s + 1) + i) (rAm hd so s i), fun v => (rnM hd so s i).2 v + shr (wn (rnM hd so s i).1 (fst' hd (s + 1) + i)) 40 (rAm hd so s i) v) := rfl
    rw [e]
    obtain ⟨p, hp⟩ : ∃ p, rnM hd so s i = p := ⟨_, rfl⟩
    rw [hp] at q1 q2 q3 q4 q5 ⊢
    have hx : rAm hd so s i ≤ ltr p.1 (fst' hd (s + 1) + i) := by
      have h1 := ham.1 i (by omega)
      have h2 : ltr p.1 (fst' hd (s + 1) + i) = ltr so (fst' hd (s + 1) + i) := ltr_congr (q3 _ (Or.inr (Nat.le_refl _)))
      rw [h2]; exact h1
    have hs2 := shr_ok (own := wn p.1 (fst' hd (s + 1) + i)) (m := 40) hx
    refine ⟨wf_tak q1 hx, ?_, fun k hk2 v hv => ?_, ?_, fun v hv h40 => ?_⟩
    · show tak p.1 _ _ 0 = _
      rw [tak_lo (by decide)]; exact q2
    · show wn (tak p.1 _ _) _ _ = _
      unfold tak
      rw [wn_rg_n _ _ hv (by omega)]
      exact q3 k (by omega) v hv
    · show sm (fun v => p.2 v + _) 40 = _
      rw [sm_add, hs2.2, q4]
      rfl
    · show p.2 v + _ = 0
      rw [q5 v hv h40, shr_0 hx h40 (q1.2.2.2.2.2.2.2.2.1 _ v hk (by omega) h40)]
theorem rAm_sum {hd so : Nat → Nat} {s : Nat} (hL : ssc hd (lck hd so) s ≤ ssc hd (ltr so) (s + 1)) : sm (rAm hd so s) (hd (5 + (s + 1))) = ssc hd (lck hd so) s := (shr_ok (own := fun j => ltr so (fst' hd (s + 1) + j)) (m := hd (5 + (s + 1))) hL).2
def rnP (hd so : Nat → Nat) (s : Nat) : (Nat → Nat) × (Nat → Nat) := rnM hd so s (hd (5 + (s + 1)))
theorem rnF_inv {hd so : Nat → Nat} (w : wf hd so) {s : Nat} (hs : s + 1 < hd 0) (hL : ssc hd (lck hd so) s ≤ ssc hd (ltr so) (s + 1)) : ∀ i, i ≤ hd (5 + s) → wf hd (rnF hd s (rnP hd so s) i).1 ∧ (rnF hd s (rnP hd so s) i).1 0 = so 0 ∧ (∀ k, fst' hd s + i ≤ k → k < fst' hd (s + 1) → ∀ v, v < 40 → wn (rnF hd s (rnP hd so s) i).1 k v = wn so k v) ∧ sm (rnF hd s (rnP hd so s) i).2 40 + sm (fun j => lck hd so (fst' hd s + j)) i = ssc hd (lck hd so) s ∧ (∀ v, so 0 < v → v < 40 → (rnF hd s (rnP hd so s) i).2 v = 0) := by
  intro i
  induction i with
  | zero =>
    intro _
    obtain ⟨q1, q2, q3, q4, q5⟩ := rnM_inv w hs hL (hd (5 + (s + 1))) (Nat.le_refl _)
    refine ⟨q1, q2, fun k h1 h2 v hv => q3 k (Or.inl h2) v hv, ?_, q5⟩
    show sm (rnM hd so s _).2 40 + 0 = _
    rw [q4, rAm_sum hL]
    rfl
  | succ i ih =>
    intro hi
    obtain ⟨q1, q2, q3, q4, q5⟩ := ih (by omega)
    have hk := wf_in w (s := s) (by omega) (i := i) (by omega)
    have e : rnF hd s (rnP hd so s) (i + 1) = (ptt (rnF hd s (rnP hd so s) i).1 (fst' hd s + i) (shr (rnF hd s (rnP hd so s) i).2 40 (lck hd (rnF hd s (rnP hd so s) i).1 (fst' hd s + i))), fun v => (rnF hd s (rnP hd so s) i).2 v - shr (rnF hd s (rnP hd so s) i).2 40 (lck hd (rnF hd s (rnP hd so s) i).1 (fst' hd s + i)) v) := rfl
    rw [e]
    obtain ⟨p, hp⟩ : ∃ p, rnF hd s (rnP hd so s) i = p := ⟨_, rfl⟩
    rw [hp] at q1 q2 q3 q4 q5 ⊢
    have hl2 : ltr p.1 (fst' hd s + i) = ltr so (fst' hd s + i) := ltr_congr (q3 _ (Nat.le_refl _) (by rw [fst_succ]; omega))
    have hlk : lck hd p.1 (fst' hd s + i) = lck hd so (fst' hd s + i) := by unfold lck; rw [hl2]
    rw [hlk]
    have hm : sm (fun j => lck hd so (fst' hd s + j)) (i + 1) ≤ ssc hd (lck hd so) s := sm_mono hi
    simp only [sm] at hm
    have hx : lck hd so (fst' hd s + i) ≤ sm p.2 40 := by omega
    have hs2 := shr_ok (own := p.2) (m := 40) hx
    refine ⟨wf_ptt q1 (fun _ => ?_) (fun v hv h40 => shr_0 hx h40 (q5 v (by omega) h40)), ?_, fun k h1 h2 v hv => ?_, ?_, fun v hv h40 => ?_⟩
    · rw [hs2.2, hl2]
      have := w.2.2.2.2.2.2.2.1 _ hk
      unfold lck
      omega
    · show ptt p.1 _ _ 0 = _
      rw [ptt_lo (by decide)]; exact q2
    · show wn (ptt p.1 _ _) _ _ = _
      unfold ptt
      rw [wn_rg_n _ _ hv (by omega)]
      exact q3 k (by omega) h2 v hv
    · show sm (fun v => p.2 v - _) 40 + (sm _ i + lck hd so (fst' hd s + i)) = _
      have e2 : sm (fun v => (p.2 v - shr p.2 40 (lck hd so (fst' hd s + i)) v) + shr p.2 40 (lck hd so (fst' hd s + i)) v) 40 = sm p.2 40 := sm_congr (fun v hv => by have := hs2.1 v hv; omega)
      rw [sm_add, hs2.2] at e2
      omega
    · show p.2 v - _ = 0
      rw [q5 v hv h40]
      omega
def wDraw (hd so : Nat → Nat) (k x : Nat) : Nat := if ltr so k < x then 1 else if hd 3 < so (43 + k) + x then 2 else 0
def wRun (hd so : Nat → Nat) (s : Nat) : Nat := if ssc hd (lck hd so) s = 0 then 1 else if s + 1 = hd 0 then 2 else if ssc hd (ltr so) (s + 1) < ssc hd (lck hd so) s then 3 else 0
def wTop (hd so : Nat → Nat) : Nat := if hd 0 = 0 then 1 else if ssc hd (lck hd so) (hd 0 - 1) = 0 then 1 else 0
def wTip (hd so : Nat → Nat) (k j x : Nat) : Nat := if k = j then 1 else if ltr so k < x then 2 else if lck hd so j < x then 3 else 0
/-- an act: 0 draw, 1 run, 2 top, 3 tip -/
def aWhy (hd so : Nat → Nat) (t x y z : Nat) : Nat := if t = 0 then wDraw hd so x z else if t = 1 then wRun hd so x else if t = 2 then wTop hd so else wTip hd so x y z
def aLive (hd so : Nat → Nat) (t x y z : Nat) : Nat → Nat := if t = 0 then aDraw so x z else if t = 1 then aRun hd so x else if t = 2 then aTop hd so else aTip so x y z
def aOk (hd : Nat → Nat) (t x y z : Nat) : Prop := (t = 0 ∧ x < hd 1 ∧ z ≤ 400) ∨ (t = 1 ∧ x < hd 0) ∨ t = 2 ∨ (t = 3 ∧ x < hd 1 ∧ y < hd 1 ∧ z ≤ 400)
theorem ssc_le {hd so : Nat → Nat} (w : wf hd so) {s : Nat} (hs : s < hd 0) {f : Nat → Nat} (hf : ∀ k, k < hd 1 → f k ≤ 400) : ssc hd f s ≤ 1600 := by
  have h1 : ssc hd f s ≤ hd (5 + s) * 400 := sm_bound (fun i hi => hf _ (wf_in w hs hi))
  have h2 := (w.2.1 s hs).2.1
  have : hd (5 + s) * 400 ≤ 4 * 400 := Nat.mul_le_mul_right _ h2
  omega
theorem lck_le {hd so : Nat → Nat} (w : wf hd so) {k : Nat} (hk : k < hd 1) : lck hd so k ≤ 400 := by have := (wf_hol w hk).2; unfold lck; omega
theorem wf_live {hd so : Nat → Nat} (w : wf hd so) {t x y z : Nat} (ok : aOk hd t x y z) (hw : aWhy hd so t x y z = 0) : wf hd (aLive hd so t x y z) := by
  have hc := wf_casks w
  rcases ok with ⟨e, h1, h2⟩ | ⟨e, h1⟩ | e | ⟨e, h1, h2, h3⟩
  · subst e
    simp only [aWhy, aLive, if_true, wDraw] at hw ⊢
    split at hw
    · cases hw
    · split at hw
      · cases hw
      · exact wf_draw w (by omega) (by omega) (by omega)
  · subst e
    simp only [aWhy, aLive, wRun] at hw ⊢
    rw [if_neg (by decide), if_pos trivial] at hw ⊢
    split at hw
    · cases hw
    · split at hw
      · cases hw
      · split at hw
        · cases hw
        · exact (rnF_inv w (by omega) (by omega) (hd (5 + x)) (Nat.le_refl _)).1
  · subst e
    simp only [aWhy, aLive, wTop] at hw ⊢
    rw [if_neg (by decide), if_neg (by decide), if_pos trivial] at hw ⊢
    split at hw
    · cases hw
    · exact (wf_top w (by omega) _ (Nat.le_refl _)).1
  · subst e
    simp only [aWhy, aLive, wTip] at hw ⊢
    rw [if_neg (by decide), if_neg (by decide), if_neg (by decide)] at hw ⊢
    split at hw
    · cases hw
    · split at hw
      · cases hw
      · split at hw
        · cases hw
        · exact wf_tip w h1 (by omega) (by assumption) (by omega) h2
section ModRun
variable {G : gG} {d : Nat} {I : sI} {J : sJ} {P : sP} {K : sK} {n : Nat} {F : Int32 → sI → sJ → Prop} {FV : sI → sJ → Prop} {hd so : Nat → Nat}
theorem M_tops (hM : shM P K) (R : rM I hd so) (w : wf hd so) (h0 : 0 < hd 0) (h : ∀ I', rM I' hd (aTop hd so) → fr93 I I' → FV I' J) : ckV G (d + 4) mX12_tops [.ref 91] I J P K n FV := by
  have hc := wf_casks w
  have h5 := w.1
  have hlast : hd 1 = fst' hd (hd 0 - 1) + hd (5 + (hd 0 - 1)) := by
    rw [w.2.2.1, ← fst_succ]
    congr 1
    omega
  have key := loopN (hd (5 + (hd 0 - 1))) (fun i => ∀ I', rM I' hd (it (fun i so => tpS hd so (fst' hd (hd 0 - 1) + i)) i so) → fr93 I I' → Ok G (d + 4) mX12_tops 16 [some (.ref 91), some (.int (nI (fst' hd (hd 0 - 1) + i)))] [] I' J P K n (kV P K n FV)) ?_ ?_ 0 (by omega)
  · refine bX12_tops_0 hM ?_
    have e : I 93 0 - 1 = nI (hd 0 - 1) := by rw [R.1 0 (by decide)]; exact i_sub h0
    rw [e]
    exact M_firstNow hM R (by omega) (key I R (fr93_rf I))
  · intro I' R' f'
    refine bX12_tops_16 hM _ ?_
    rw [R'.1 1 (by decide)]
    exact br_t (nI_le (by omega) (by omega)) (h I' R' f')
  · intro i hi ih I' R' f'
    obtain ⟨w', y'⟩ := wf_top w h0 i (by omega)
    have ih2 : ∀ I'', rM I'' hd (tpS hd (it (fun i so => tpS hd so (fst' hd (hd 0 - 1) + i)) i so) (fst' hd (hd 0 - 1) + i)) → fr93 I I'' → Ok G (d + 4) mX12_tops 16 [some (.ref 91), some (.int (nI (fst' hd (hd 0 - 1) + (i + 1))))] [] I'' J P K n (kV P K n FV) := ih
    generalize it (fun i so => tpS hd so (fst' hd (hd 0 - 1) + i)) i so = so1 at R' w' y' ih2
    have hk : fst' hd (hd 0 - 1) + i < hd 1 := by omega
    have hl1 := lck_le w' hk
    have hy := w'.2.2.2.2.2.2.1
    rw [show fst' hd (hd 0 - 1) + (i + 1) = fst' hd (hd 0 - 1) + i + 1 by omega] at ih2
    generalize fst' hd (hd 0 - 1) + i = k at hk ih2 hl1 ⊢
    refine bX12_tops_16 hM _ ?_
    rw [R'.1 1 (by decide)]
    refine br_f (nI_ge hk (by omega)) (M_wineAt k ?_)
    have e1 : nI (878 + 40 * k) + I' 93 815 = nI (878 + 40 * k + so1 0) := by rw [rM_year R', i_add]
    rw [e1, nI_ck (by omega), nI_1]
    have hv : vp_in (nI (878 + 40 * k + so1 0)) 1920 := nI_inN (by omega) (by omega)
    refine ⟨hv, M_lacks hM R' w' hk ⟨hv, ?_⟩⟩
    rw [rM_wn R' (by omega) (by omega), i_add]
    have hf2 : fr93 I' (u2 I' 93 (878 + 40 * k + so1 0) (nI (wn so1 k (so1 0) + lck hd so1 k))) := ⟨fun c j hc1 _ => u2_a _ _ _ _ hc1, fun j hj => u2_k _ _ _ _ (by omega)⟩
    refine ih2 _ (rM_of R' hf2 (fun j hj => ?_)) (fr93_tr f' hf2)
    unfold tpS
    by_cases q : j = 63 + 40 * k + so1 0
    · subst q; rw [show 815 + (63 + 40 * k + so1 0) = 878 + 40 * k + so1 0 by omega, u2_s, up_s]
    · rw [u2_k _ _ _ _ (by omega), up_n _ _ q]; exact R'.2 j hj
theorem M_runs {s : Nat} (hM : shM P K) (R : rM I hd so) (w : wf hd so) (hs : s + 1 < hd 0) (hL : ssc hd (lck hd so) s ≤ ssc hd (ltr so) (s + 1)) (h : ∀ I', rM I' hd (aRun hd so s) → fr93 I I' → FV I' J) : ckV G (d + 5) mX12_runs [.ref 91, .int (nI s)] I J P K n FV := by
  have hc := wf_casks w
  have h5 := w.1
  have hf1 := wf_fst w (s := s + 1) (by omega)
  obtain ⟨m1, m2, -⟩ := w.2.1 (s + 1) hs
  have hLs := ssc_le w (s := s) (by omega) (fun k hk => lck_le w hk)
  have hOs : ssc hd (ltr so) (s + 1) ≤ 1600 := ssc_le w hs (fun k hk => wf_ltr w hk)
  have hI := rnM_inv w hs hL
  have hF := rnF_inv w hs hL
  have ham := shr_ok (own := fun j => ltr so (fst' hd (s + 1) + j)) (m := hd (5 + (s + 1))) hL
  refine bX12_runs_0 hM _ ?_
  rw [nI_1]
  refine M_firstNow hM R (by omega) ?_
  have e1 : (5 + nI s + 1 : Int32) = nI (5 + (s + 1)) := by show nI 5 + nI s + 1 = _; rw [i_add, nI_1]; rfl
  rw [e1, nI_ck (by omega), R.1 _ (by omega)]
  refine ⟨nI_inN (by omega) (by omega), ?_⟩
  -- the last loop: into each cask
  have fill : ∀ I1, rM I1 hd (rnP hd so s).1 → fr93 I I1 → (∀ v, v < 40 → I1 105 v = nI ((rnP hd so s).2 v)) → Ok G (d + 5) mX12_runs 154 [some (.ref 91), none, some (.int (nI (fst' hd (s + 1)))), none, some (.int (nI (fst' hd s)))] [] I1 J P K n (kV P K n FV) := by
    have key := loopN (hd (5 + s)) (fun i => ∀ I', rM I' hd (rnF hd s (rnP hd so s) i).1 → fr93 I I' → (∀ v, v < 40 → I' 105 v = nI ((rnF hd s (rnP hd so s) i).2 v)) → Ok G (d + 5) mX12_runs 154 [some (.ref 91), none, some (.int (nI (fst' hd (s + 1)))), none, some (.int (nI (fst' hd s + i)))] [] I' J P K n (kV P K n FV)) ?_ ?_ 0 (by omega)
    · exact key
    · intro I' R' f' hm'
      exact bX12_runs_154 hM _ _ (br_t (nI_le (by rw [fst_succ]; exact Nat.le_refl _) (by rw [← fst_succ]; omega)) (h I' R' f'))
    · intro i hi ih I' R' f' hm'
      obtain ⟨q1, q2, q3, q4, q5⟩ := hF i (by omega)
      have e : rnF hd s (rnP hd so s) (i + 1) = (ptt (rnF hd s (rnP hd so s) i).1 (fst' hd s + i) (shr (rnF hd s (rnP hd so s) i).2 40 (lck hd (rnF hd s (rnP hd so s) i).1 (fst' hd s + i))), fun v => (rnF hd s (rnP hd so s) i).2 v - shr (rnF hd s (rnP hd so s) i).2 40 (lck hd (rnF hd s (rnP hd so s) i).1 (fst' hd s + i)) v) := rfl
      rw [e] at ih
      obtain ⟨p, hp⟩ : ∃ p, rnF hd s (rnP hd so s) i = p := ⟨_, rfl⟩
      rw [hp] at ih R' hm' q1 q2 q3 q4 q5
      have hk := wf_in w (s := s) (by omega) hi
      have hl2 : ltr p.1 (fst' hd s + i) = ltr so (fst' hd s + i) := ltr_congr (q3 _ (Nat.le_refl _) (by rw [fst_succ]; omega))
      have hlk : lck hd p.1 (fst' hd s + i) = lck hd so (fst' hd s + i) := by unfold lck; rw [hl2]
      have hm : sm (fun j => lck hd so (fst' hd s + j)) (i + 1) ≤ ssc hd (lck hd so) s := sm_mono hi
      simp only [sm] at hm
      refine bX12_runs_154 hM _ _ (br_f (nI_ge (by rw [fst_succ]; omega) (by omega)) (M_lacks hM R' q1 hk (M_wineAt _ ?_)))
      refine M_pourIn hM R' q1 hk hm' (by rw [hlk]; omega) (by omega) (fun I2 R2 f2 hm2 => ?_)
      rw [nI_1]
      exact ih I2 R2 (fr93_tr f' f2) hm2
  -- what is out of the next scale's casks
  have mixl : ∀ I1, rM I1 hd so → fr93 I I1 → (∀ v, v < 40 → I1 105 v = nI 0) → (∀ i, i < hd (5 + (s + 1)) → I1 106 i = nI (rAm hd so s i)) → Ok G (d + 5) mX12_runs 104 [some (.ref 91), some (.int (nI s)), some (.int (nI (fst' hd (s + 1)))), some (.int (nI (hd (5 + (s + 1))))), some (.int 0)] [] I1 J P K n (kV P K n FV) := by
    have key := loopN (hd (5 + (s + 1))) (fun i => ∀ I', rM I' hd (rnM hd so s i).1 → fr93 I I' → (∀ v, v < 40 → I' 105 v = nI ((rnM hd so s i).2 v)) → (∀ i, i < hd (5 + (s + 1)) → I' 106 i = nI (rAm hd so s i)) → Ok G (d + 5) mX12_runs 104 [some (.ref 91), some (.int (nI s)), some (.int (nI (fst' hd (s + 1)))), some (.int (nI (hd (5 + (s + 1))))), some (.int (nI i))] [] I' J P K n (kV P K n FV)) ?_ ?_ 0 (by omega)
    · exact key
    · intro I' R' f' hm' ha'
      exact bX12_runs_104 hM _ _ _ _ (br_t (nI_le (Nat.le_refl _) (by omega)) (M_firstNow hM R' (by omega) (fill I' R' f' hm')))
    · intro i hi ih I' R' f' hm' ha'
      obtain ⟨q1, q2, q3, q4, q5⟩ := hI i (by omega)
      have e : rnM hd so s (i + 1) = (tak (rnM hd so s i).1 (fst' hd (s + 1) + i) (rAm hd so s i), fun v => (rnM hd so s i).2 v + shr (wn (rnM hd so s i).1 (fst' hd (s + 1) + i)) 40 (rAm hd so s i) v) := rfl
      rw [e] at ih
      obtain ⟨p, hp⟩ : ∃ p, rnM hd so s i = p := ⟨_, rfl⟩
      rw [hp] at ih R' hm' q1 q2 q3 q4 q5
      have hk := wf_in w hs hi
      have hx : rAm hd so s i ≤ ltr p.1 (fst' hd (s + 1) + i) := by
        have h1 := ham.1 i hi
        have h2 : ltr p.1 (fst' hd (s + 1) + i) = ltr so (fst' hd (s + 1) + i) := ltr_congr (q3 _ (Or.inr (Nat.le_refl _)))
        rw [h2]; exact h1
      refine bX12_runs_104 hM _ _ _ _ (br_f (nI_ge hi (by omega)) ?_)
      rw [i_add]
      refine M_wineAt _ ⟨nI_inN (by omega) (by omega), ?_⟩
      rw [nI_ck (by omega), ha' i hi]
      refine M_pourOut hM R' q1 hk hx (Or.inl rfl) (fun I2 R2 f2 p2 p3 => ?_)
      rw [nI_1]
      refine ih I2 R2 (fr93_tr f' f2) (fun v hv => ?_) (fun j hj => ?_)
      · rw [p2 v hv, hm' v hv, i_add]
      · rw [p3 106 j (by simp) (by decide)]; exact ha' j hj
  -- amounts out of the shares
  have amts : ∀ I1, rM I1 hd so → fr93 I I1 → (∀ i, i < hd (5 + (s + 1)) → I1 103 i = nI (rAm hd so s i)) → Ok G (d + 5) mX12_runs 66 [some (.ref 91), some (.int (nI s)), some (.int (nI (fst' hd (s + 1)))), some (.int (nI (hd (5 + (s + 1))))), some (.int 0)] [] I1 J P K n (kV P K n FV) := by
    have key := loopN (hd (5 + (s + 1))) (fun i => ∀ I', rM I' hd so → fr93 I I' → (∀ i, i < hd (5 + (s + 1)) → I' 103 i = nI (rAm hd so s i)) → (∀ j, j < i → I' 106 j = nI (rAm hd so s j)) → Ok G (d + 5) mX12_runs 66 [some (.ref 91), some (.int (nI s)), some (.int (nI (fst' hd (s + 1)))), some (.int (nI (hd (5 + (s + 1))))), some (.int (nI i))] [] I' J P K n (kV P K n FV)) ?_ ?_ 0 (by omega)
    · intro I1 R1 f1 h1
      exact key I1 R1 f1 h1 (fun j hj => by omega)
    · intro I' R' f' hs' ha'
      refine bX12_runs_66 hM _ _ _ _ (br_t (nI_le (Nat.le_refl _) (by omega)) (M_clear (q := 0) (shM_K105 hM) (by decide) (by decide) (fun I2 c1 c2 => ?_)))
      have hf2 : fr93 I' I2 := ⟨fun c k hc1 hc2 => c2 c k (fun e => by have := e.1; omega), fun k hk => c2 93 k (fun e => by have := e.1; omega)⟩
      exact mixl I2 (rM_of R' hf2 (fun j hj => by rw [c2 93 _ (fun e => by have := e.1; omega)]; exact R'.2 j hj)) (fr93_tr f' hf2) (fun v hv => by have := c1 v hv; rw [Nat.zero_add] at this; exact this) (fun j hj => by rw [c2 106 _ (fun e => by have := e.1; omega)]; exact ha' j hj)
    · intro i hi ih I' R' f' hs' ha'
      refine bX12_runs_66 hM _ _ _ _ (br_f (nI_ge hi (by omega)) ⟨nI_inN (by omega) (by omega), nI_inN (by omega) (by omega), ?_⟩)
      rw [nI_ck (by omega), hs' i hi, nI_1]
      have hf2 : fr93 I' (u2 I' 106 i (nI (rAm hd so s i))) := ⟨fun c k hc1 hc2 => u2_a _ _ _ _ (by omega), fun k hk => u2_a _ _ _ _ (by decide)⟩
      refine ih _ (rM_of R' hf2 (fun j hj => by rw [u2_a _ _ _ _ (by decide)]; exact R'.2 j hj)) (fr93_tr f' hf2) (fun j hj => by rw [u2_a _ _ _ _ (by decide)]; exact hs' j hj) (fun j hj => ?_)
      by_cases q : j = i
      · subst q; rw [u2_s]
      · rw [u2_k _ _ _ _ q]; exact ha' j (by omega)
  have key := loopN (hd (5 + (s + 1))) (fun i => ∀ I', rM I' hd so → fr93 I I' → (∀ j, j < i → I' 102 j = nI (ltr so (fst' hd (s + 1) + j))) → Ok G (d + 5) mX12_runs 25 [some (.ref 91), some (.int (nI s)), some (.int (nI (fst' hd (s + 1)))), some (.int (nI (hd (5 + (s + 1))))), some (.int (nI i))] [] I' J P K n (kV P K n FV)) ?_ ?_ 0 (by omega)
  · exact key I R (fr93_rf I) (fun j hj => by omega)
  · intro I' R' f' ho'
    refine bX12_runs_25 hM _ _ _ _ (br_t (nI_le (Nat.le_refl _) (by omega)) ?_)
    refine M_sumOf 1 (lck hd so) hM R' w (by omega) (Or.inr (Or.inl ⟨rfl, rfl⟩)) ?_
    refine M_layShares hM (by omega) (by omega) ho' hL (Nat.le_trans hOs (by decide)) (fun I2 g1 g2 => ?_)
    have hf2 : fr93 I' I2 := ⟨fun c k hc1 hc2 => g2 c k (by omega), fun k hk => g2 93 k (by omega)⟩
    exact amts I2 (rM_of R' hf2 (fun j hj => by rw [g2 93 _ (by omega)]; exact R'.2 j hj)) (fr93_tr f' hf2) g1
  · intro i hi ih I' R' f' ho'
    have hk := wf_in w hs hi
    refine bX12_runs_25 hM _ _ _ _ (br_f (nI_ge hi (by omega)) ?_)
    rw [i_add]
    refine M_litresOf hM R' (by omega) ⟨nI_inN (by omega) (by omega), ?_⟩
    rw [nI_ck (by omega), nI_1]
    have hf2 : fr93 I' (u2 I' 102 i (nI (ltr so (fst' hd (s + 1) + i)))) := ⟨fun c k hc1 hc2 => u2_a _ _ _ _ (by omega), fun k hk => u2_a _ _ _ _ (by decide)⟩
    refine ih _ (rM_of R' hf2 (fun j hj => by rw [u2_a _ _ _ _ (by decide)]; exact R'.2 j hj)) (fr93_tr f' hf2) (fun j hj => ?_)
    by_cases q : j = i
    · subst q; rw [u2_s]
    · rw [u2_k _ _ _ _ q]; exact ho' j (by omega)
end ModRun
