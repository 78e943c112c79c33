/-! the reference's acts -/
def fr93 (I I' : sI) : Prop := (∀ c k, c ≠ 93 → ¬ (102 ≤ c ∧ c ≤ 107) → I' c k = I c k) ∧ ∀ k, k < 815 ∨ 1678 ≤ k → I' 93 k = I 93 k
theorem fr93_rf (I : sI) : fr93 I I := ⟨fun _ _ _ _ => rfl, fun _ _ => rfl⟩
theorem fr93_tr {I I' I2 : sI} (h : fr93 I I') (h2 : fr93 I' I2) : fr93 I I2 := ⟨fun c k a b => (h2.1 c k a b).trans (h.1 c k a b), fun k a => (h2.2 k a).trans (h.2 k a)⟩
theorem rM_of {I I' : sI} {hd so so' : Nat → Nat} (R : rM I hd so) (f : fr93 I I') (h : ∀ j, j < 863 → I' 93 (815 + j) = nI (so' j)) : rM I' hd so' := ⟨fun k hk => (f.2 k (by omega)).trans (R.1 k hk), h⟩
section ModActs
variable {G : gG} {d : Nat} {I : sI} {J : sJ} {P : sP} {K : sK} {n : Nat} {F : Int32 → sI → sJ → Prop} {FV : sI → sJ → Prop} {hd so : Nat → Nat}
theorem M_draws {k x : Nat} (hM : shM P K) (R : rM I hd so) (w : wf hd so) (hk : k < hd 1) (hx : x ≤ ltr so k) (h : ∀ I', rM I' hd (aDraw so k x) → fr93 I I' → FV I' J) : ckV G (d + 3) mX12_draws [.ref 91, .int (nI k), .int (nI x)] I J P K n FV := by
  have hc := wf_casks w
  have hl := wf_ltr w hk
  have hm := shM_K93 hM
  refine bX12_draws_0 hM _ _ (M_clear (q := 818) hm (by decide) (by decide) (fun I1 c1 c2 => M_wineAt k ?_))
  refine M_pours (r := 818) (f := wn so k) hM hm hm (by omega) (by decide) (by decide) (by decide) (by simp [d3]) (by simp [d3]) (Or.inr (Or.inr (by omega))) (fun v hv => ?_) hx (show sm (wn so k) 40 ≤ 20000 from by show ltr so k ≤ _; omega) (fun I2 p1 p2 p3 => ?_)
  · rw [c2 93 _ (fun e => by have := e.2.2; omega)]
    exact rM_wn R (by omega) hv
  · have e1 : (858 + nI k : Int32) = nI (858 + k) := by show nI 858 + nI k = _; rw [i_add]
    have v1 : vp_in (nI (858 + k)) 1920 := nI_inN (by omega) (by omega)
    have ho : ∀ j, ¬ rgn 93 (878 + 40 * k) 93 j → ¬ rgn 93 818 93 j → I2 93 j = I 93 j := fun j h1 h2 => (p3 93 j (by simp [d3]) h1 h2).trans (c2 93 j h2)
    rw [e1, nI_ck (by omega)]
    refine ⟨v1, v1, ?_⟩
    rw [u2_k _ _ _ _ (by omega)]
    have ed : I2 93 (858 + k) = nI (so (43 + k)) := by
      rw [ho _ (fun e => by have := e.2.1; omega) (fun e => by have := e.2.2; omega), show 858 + k = 815 + (43 + k) by omega]
      exact R.2 _ (by omega)
    have ea : I2 93 816 = nI (so 1) := by
      rw [ho _ (fun e => by have := e.2.1; omega) (fun e => by have := e.2.1; omega)]
      exact R.2 1 (by decide)
    rw [ed, ea, i_add, i_add]
    have hfr : fr93 I (u2 (u2 I2 93 (858 + k) (nI (so (43 + k) + x))) 93 816 (nI (so 1 + x))) := by
      refine ⟨fun c j hc1 hc2 => ?_, fun j hj => ?_⟩
      · rw [u2_a _ _ _ _ hc1, u2_a _ _ _ _ hc1, p3 c j (fun e => by rcases e with e | e | e <;> omega) (fun e => hc1 e.1) (fun e => hc1 e.1), c2 c j (fun e => hc1 e.1)]
      · rw [u2_k _ _ _ _ (by omega), u2_k _ _ _ _ (by omega)]
        exact ho j (fun e => by have := e.2; omega) (fun e => by have := e.2; omega)
    refine h _ (rM_of R hfr (fun j hj => ?_)) hfr
    unfold aDraw
    by_cases q1 : j = 1
    · subst q1; rw [u2_s, up_s]
    rw [u2_k _ _ _ _ (by omega), up_n _ _ q1]
    by_cases q2 : j = 43 + k
    · subst q2
      rw [show 815 + (43 + k) = 858 + k by omega, u2_s, up_s]
    rw [u2_k _ _ _ _ (by omega), up_n _ _ q2]
    by_cases q3 : 3 ≤ j ∧ j < 43
    · have e2 : rg (tak so k x) 3 (shr (wn so k) 40 x) j = shr (wn so k) 40 x (j - 3) := by
        have := rg_in (tak so k x) 3 (shr (wn so k) 40 x) (v := j - 3) (by omega)
        rw [show 3 + (j - 3) = j by omega] at this
        exact this
      rw [e2, show 815 + j = 818 + (j - 3) by omega, p2 _ (by omega), c1 _ (by omega), i_add, Nat.zero_add]
    rw [rg_out _ _ _ (by omega)]
    unfold tak
    by_cases q4 : 63 + 40 * k ≤ j ∧ j < 63 + 40 * k + 40
    · have e2 := rg_in so (63 + 40 * k) (fun v => wn so k v - shr (wn so k) 40 x v) (v := j - (63 + 40 * k)) (by omega)
      rw [show 63 + 40 * k + (j - (63 + 40 * k)) = j by omega] at e2
      rw [e2, show 815 + j = 878 + 40 * k + (j - (63 + 40 * k)) by omega]
      exact p1 _ (by omega)
    · rw [rg_out _ _ _ (by omega), ho _ (fun e => by have := e.2; omega) (fun e => by have := e.2; omega)]
      exact R.2 j hj
/-- a portion goes out of a cask into a row apart -/
theorem M_pourOut {k x b : Nat} (hM : shM P K) (R : rM I hd so) (w : wf hd so) (hk : k < hd 1) (hx : x ≤ ltr so k) (hb : b = 105 ∨ b = 107) (h : ∀ I', rM I' hd (tak so k x) → fr93 I I' → (∀ v, v < 40 → I' b v = I b v + nI (shr (wn so k) 40 x v)) → (∀ c k, c = 105 ∨ c = 106 ∨ c = 107 → c ≠ b → I' c k = I c k) → FV I' J) : ckV G (d + 2) mX12_pours [.ref 91, .ref 93, .int (nI (878 + 40 * k)), .int (nI x), .ref b, .int 0] I J P K n FV := by
  have hc := wf_casks w
  have hl := wf_ltr w hk
  have hm := shM_K93 hM
  have kb : K b = (13, 40) := by rcases hb with e | e <;> subst e; exact shM_K105 hM; exact shM_K107 hM
  refine M_pours (r := 0) (f := wn so k) hM hm kb (by omega) (by decide) (by decide) (by decide) (by simp [d3]) (by rcases hb with e | e <;> subst e <;> simp [d3]) (Or.inl (by omega)) (fun v hv => rM_wn R (by omega) hv) hx (show sm (wn so k) 40 ≤ 20000 from by show ltr so k ≤ _; omega) (fun I2 p1 p2 p3 => ?_)
  have hfr : fr93 I I2 := ⟨fun c j hc1 hc2 => p3 c j (fun e => by rcases e with e | e | e <;> omega) (fun e => hc1 e.1) (fun e => by have := e.1; omega), fun j hj => p3 93 j (by simp [d3]) (fun e => by have := e.2; omega) (fun e => by have := e.1; omega)⟩
  refine h I2 (rM_of R hfr (fun j hj => ?_)) hfr (fun v hv => by have := p2 v hv; rw [Nat.zero_add] at this; exact this) (fun c j hc1 hc2 => p3 c j (fun e => by rcases e with e | e | e <;> omega) (fun e => by have := e.1; omega) (fun e => hc2 e.1))
  unfold tak
  by_cases q4 : 63 + 40 * k ≤ j ∧ j < 63 + 40 * k + 40
  · have e2 := rg_in so (63 + 40 * k) (fun v => wn so k v - shr (wn so k) 40 x v) (v := j - (63 + 40 * k)) (by omega)
    rw [show 63 + 40 * k + (j - (63 + 40 * k)) = j by omega] at e2
    rw [e2, show 815 + j = 878 + 40 * k + (j - (63 + 40 * k)) by omega]
    exact p1 _ (by omega)
  · rw [rg_out _ _ _ (by omega), p3 93 _ (by simp [d3]) (fun e => by have := e.2; omega) (fun e => by have := e.1; omega)]
    exact R.2 j hj
theorem M_pourTip {k j x : Nat} (hM : shM P K) (R : rM I hd so) (w : wf hd so) (hk : k < hd 1) (hj : j < hd 1) (hkj : k ≠ j) (hx : x ≤ ltr so k) (h : ∀ I', rM I' hd (aTip so k j x) → fr93 I I' → FV I' J) : ckV G (d + 2) mX12_pours [.ref 91, .ref 93, .int (nI (878 + 40 * k)), .int (nI x), .ref 93, .int (nI (878 + 40 * j))] I J P K n FV := by
  have hc := wf_casks w
  have hl := wf_ltr w hk
  have hm := shM_K93 hM
  refine M_pours (f := wn so k) hM hm hm (by omega) (by omega) (by decide) (by decide) (by simp [d3]) (by simp [d3]) (Or.inr (by omega)) (fun v hv => rM_wn R (by omega) hv) hx (show sm (wn so k) 40 ≤ 20000 from by show ltr so k ≤ _; omega) (fun I2 p1 p2 p3 => ?_)
  have hfr : fr93 I I2 := ⟨fun c i hc1 hc2 => p3 c i (fun e => by rcases e with e | e | e <;> omega) (fun e => hc1 e.1) (fun e => hc1 e.1), fun i hi => p3 93 i (by simp [d3]) (fun e => by have := e.2; omega) (fun e => by have := e.2; omega)⟩
  refine h I2 (rM_of R hfr (fun i hi => ?_)) hfr
  unfold aTip ptt
  by_cases q3 : 63 + 40 * j ≤ i ∧ i < 63 + 40 * j + 40
  · have e2 := rg_in (tak so k x) (63 + 40 * j) (fun v => wn (tak so k x) j v + shr (wn so k) 40 x v) (v := i - (63 + 40 * j)) (by omega)
    rw [show 63 + 40 * j + (i - (63 + 40 * j)) = i by omega] at e2
    have e3 : wn (tak so k x) j (i - (63 + 40 * j)) = wn so j (i - (63 + 40 * j)) := wn_rg_n so _ (by omega) (Ne.symm hkj)
    rw [e2, e3, show 815 + i = 878 + 40 * j + (i - (63 + 40 * j)) by omega, p2 _ (by omega), rM_wn R (by omega) (by omega), i_add]
  rw [rg_out _ _ _ (by omega)]
  unfold tak
  by_cases q4 : 63 + 40 * k ≤ i ∧ i < 63 + 40 * k + 40
  · have e2 := rg_in so (63 + 40 * k) (fun v => wn so k v - shr (wn so k) 40 x v) (v := i - (63 + 40 * k)) (by omega)
    rw [show 63 + 40 * k + (i - (63 + 40 * k)) = i by omega] at e2
    rw [e2, show 815 + i = 878 + 40 * k + (i - (63 + 40 * k)) by omega]
    exact p1 _ (by omega)
  · rw [rg_out _ _ _ (by omega), p3 93 _ (by simp [d3]) (fun e => by have := e.2; omega) (fun e => by have := e.2; omega)]
    exact R.2 i hi
/-- of the mix into a cask -/
theorem M_pourIn {k x : Nat} {mix : Nat → Nat} (hM : shM P K) (R : rM I hd so) (w : wf hd so) (hk : k < hd 1) (hmx : ∀ v, v < 40 → I 105 v = nI (mix v)) (hx : x ≤ sm mix 40) (hs : sm mix 40 ≤ 20000) (h : ∀ I', rM I' hd (ptt so k (shr mix 40 x)) → fr93 I I' → (∀ v, v < 40 → I' 105 v = nI (mix v - shr mix 40 x v)) → FV I' J) : ckV G (d + 2) mX12_pours [.ref 91, .ref 105, .int 0, .int (nI x), .ref 93, .int (nI (878 + 40 * k))] I J P K n FV := by
  have hc := wf_casks w
  have hm := shM_K93 hM
  refine M_pours (q := 0) (f := mix) hM (shM_K105 hM) hm (by decide) (by omega) (by decide) (by decide) (by simp [d3]) (by simp [d3]) (Or.inl (by decide)) (fun v hv => by rw [Nat.zero_add]; exact hmx v hv) hx hs (fun I2 p1 p2 p3 => ?_)
  have hfr : fr93 I I2 := ⟨fun c i hc1 hc2 => p3 c i (fun e => by rcases e with e | e | e <;> omega) (fun e => by have := e.1; omega) (fun e => hc1 e.1), fun i hi => p3 93 i (by simp [d3]) (fun e => by have := e.1; omega) (fun e => by have := e.2; omega)⟩
  refine h I2 (rM_of R hfr (fun i hi => ?_)) hfr (fun v hv => by have := p1 v hv; rw [Nat.zero_add] at this; exact this)
  unfold ptt
  by_cases q3 : 63 + 40 * k ≤ i ∧ i < 63 + 40 * k + 40
  · have e2 := rg_in so (63 + 40 * k) (fun v => wn so k v + shr mix 40 x v) (v := i - (63 + 40 * k)) (by omega)
    rw [show 63 + 40 * k + (i - (63 + 40 * k)) = i by omega] at e2
    rw [e2, show 815 + i = 878 + 40 * k + (i - (63 + 40 * k)) by omega, p2 _ (by omega), rM_wn R (by omega) (by omega), i_add]
  · rw [rg_out _ _ _ (by omega), p3 93 _ (by simp [d3]) (fun e => by have := e.1; omega) (fun e => by have := e.2; omega)]
    exact R.2 i hi
theorem M_oneYear (hM : shM P K) (R : rM I hd so) (w : wf hd so) (hy : so 0 < 39) (h : ∀ I', rM I' hd (aYear hd so) → fr93 I I' → FV I' J) : ckV G (d + 3) mX12_oneYear [.ref 91] I J P K n FV := by
  have hc := wf_casks w
  have hpre := it_inv (f := fun k so => aAng hd so k) (a := so) (fun _ so' => wf hd so' ∧ so' 0 = so 0) ⟨w, rfl⟩ (n := hd 1) (fun k hk b hb => ⟨wf_ang hb.1 (by omega), by
    show aAng hd b k 0 = so 0
    unfold aAng
    rw [up_n _ _ (by omega), up_n _ _ (by omega), tak_lo (by decide)]
    exact hb.2⟩)
  have key := loopN (hd 1) (fun j => ∀ I', rM I' hd (it (fun k so => aAng hd so k) j so) → fr93 I I' → Ok G (d + 3) mX12_oneYear 2 [some (.ref 91), some (.int (nI j)), none] [] I' J P K n (kV P K n FV)) ?_ ?_ 0 (by omega)
  · exact bX12_oneYear_0 (key I R (fr93_rf I))
  · intro I' R' f'
    refine bX12_oneYear_2 hM _ ?_
    rw [R'.1 1 (by decide), rM_year R', nI_1]
    refine br_t (nI_le (Nat.le_refl _) (by omega)) ?_
    have hf2 : fr93 I' (u2 I' 93 815 (nI (it (fun k so => aAng hd so k) (hd 1) so 0 + 1))) := ⟨fun c k hc1 _ => u2_a _ _ _ _ hc1, fun k hk => u2_k _ _ _ _ (by omega)⟩
    refine h _ (rM_of R' hf2 (fun j hj => ?_)) (fr93_tr f' hf2)
    unfold aYear
    by_cases q : j = 0
    · subst q; rw [u2_s, up_s, (hpre _ (Nat.le_refl _)).2]
    · rw [u2_k _ _ _ _ (by omega), up_n _ _ q]; exact R'.2 j hj
  · intro j hj ih I' R' f'
    obtain ⟨w', y'⟩ := hpre j (by omega)
    have ih2 : ∀ I'', rM I'' hd (aAng hd (it (fun k so => aAng hd so k) j so) j) → fr93 I I'' → Ok G (d + 3) mX12_oneYear 2 [some (.ref 91), some (.int (nI (j + 1))), none] [] I'' J P K n (kV P K n FV) := ih
    generalize it (fun k so => aAng hd so k) j so = so1 at R' w' y' ih2
    have hl := wf_ltr w' hj
    have h2 : hd 2 ≤ 9 := w.2.2.2.1
    have hpr : ltr so1 j * hd 2 ≤ 400 * 9 := Nat.mul_le_mul hl h2
    refine bX12_oneYear_2 hM _ ?_
    rw [R'.1 1 (by decide)]
    refine br_f (nI_ge hj (by omega)) (M_litresOf hM R' (by omega) (M_wineAt j ?_))
    have ea : (nI (ltr so1 j) * I' 93 2) / 100 = nI (angA hd so1 j) := by
      rw [R'.1 2 (by decide), i_mul]
      show nI _ / nI 100 = _
      rw [i_div (by omega) (by decide) (by decide)]
      rfl
    rw [ea]
    refine M_pourOut hM R' w' hj (angA_le w' j) (Or.inr rfl) (fun I2 R2 f2 _ _ => ?_)
    have e1 : (858 + nI j : Int32) = nI (858 + j) := by show nI 858 + nI j = _; rw [i_add]
    have et : I2 93 817 = nI (so1 2) := by
      have := R2.2 2 (by decide)
      rw [tak_lo (by decide)] at this
      exact this
    rw [e1, nI_ck (by omega), et, i_add, nI_1]
    refine ⟨nI_inN (by omega) (by omega), ?_⟩
    have hf2 : fr93 I2 (u2 (u2 I2 93 817 (nI (so1 2 + angA hd so1 j))) 93 (858 + j) 0) := ⟨fun c k hc1 _ => by rw [u2_a _ _ _ _ hc1, u2_a _ _ _ _ hc1], fun k hk => by rw [u2_k _ _ _ _ (by omega), u2_k _ _ _ _ (by omega)]⟩
    refine ih2 _ (rM_of R2 hf2 (fun i hi => ?_)) (fr93_tr f' (fr93_tr f2 hf2))
    unfold aAng
    by_cases q1 : i = 43 + j
    · subst q1; rw [show 815 + (43 + j) = 858 + j by omega, u2_s, up_s]; rfl
    rw [u2_k _ _ _ _ (by omega), up_n _ _ q1]
    by_cases q2 : i = 2
    · subst q2; rw [u2_s, up_s]
    · rw [u2_k _ _ _ _ (by omega), up_n _ _ q2]; exact R2.2 i hi
end ModActs
