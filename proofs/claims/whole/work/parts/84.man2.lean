section Man2
variable {G : gG} {d : Nat} {I : sI} {J : sJ} {P : sP} {K : sK} {n : Nat} {F : Int32 → sI → sJ → Prop} {FV : sI → sJ → Prop} {hd so : Nat → Nat} {c l : Nat}
/-- one year -/
theorem C_year {x3 x2 : Int32} (hX : shX P K) (S : sC P K c l) (L : rL I l hd) (C : rC I c hd so) (w : wf hd so) (h : ∀ I', rC I' c hd (aYear hd so) → frC c I I' → Ok G (d + 4) mX2_letYears 2 [some (.ref 4), some (.ref c), some (.int x2), some (.int (x3 + 1)), none] [] I' J P K n (kI P K n F)) : Ok G (d + 4) mX2_letYears 19 [some (.ref 4), some (.ref c), some (.int x2), some (.int x3), some (.int 0)] [] I J P K n (kI P K n F) := by
  have hc := wf_casks w
  have c34 := S.2.2.2.1
  have inv : ∀ k, k ≤ hd 1 → wf hd (it (fun k so => aAng hd so k) k so) ∧ it (fun k so => aAng hd so k) k so 0 = so 0 :=
    it_inv (Q := fun _ s => wf hd s ∧ s 0 = so 0) ⟨w, rfl⟩ (fun k hk b hb => ⟨wf_ang hb.1 (by omega), by
      have : aAng hd b k 0 = b 0 := by unfold aAng; rw [up_n _ _ (by omega), up_n _ _ (by decide), tak_lo (by decide)]
      rw [this]; exact hb.2⟩)
  have key := loopN (hd 1) (fun j => ∀ I', rC I' c hd (it (fun k so => aAng hd so k) j so) → frC c I I' → Ok G (d + 4) mX2_letYears 19 [some (.ref 4), some (.ref c), some (.int x2), some (.int x3), some (.int (nI j))] [] I' J P K n (kI P K n F)) ?_ ?_ 0 (by omega)
  · exact key I C (frC_rf _ _)
  · intro I' C' f
    have L' := rL_fr S L f
    refine bX2_letYears_19 hX _ _ _ _ S.1 ⟨l, S.2.1, S.2.2.1, ?_⟩
    rw [L'.1 1 (by decide)]
    refine br_t (nI_le (Nat.le_refl _) (by omega)) ?_
    rw [C'.1, (inv _ (Nat.le_refl _)).2, nI_1]
    refine h _ ⟨?_, ?_, ?_, fun j v hj hv => ?_, fun j hj => ⟨?_, ?_⟩, fun v hv => ?_⟩ (fun a i ha => ?_)
    · rw [u2_s]; unfold aYear; rw [up_s]
    · rw [u2_k _ _ _ _ (by decide)]; unfold aYear; rw [up_n _ _ (by decide)]; exact C'.2.1
    · rw [u2_k _ _ _ _ (by decide)]; unfold aYear; rw [up_n _ _ (by decide)]; exact C'.2.2.1
    · rw [u2_a _ _ _ _ (by omega)]; unfold aYear; rw [wn_up _ _ _ _ (by decide)]; exact C'.2.2.2.1 j v hj hv
    · rw [u2_a _ _ _ _ (by omega)]; unfold aYear; rw [ltr_up (by decide)]; exact (C'.2.2.2.2.1 j hj).1
    · rw [u2_a _ _ _ _ (by omega)]; unfold aYear; rw [up_n _ _ (by omega)]; exact (C'.2.2.2.2.1 j hj).2
    · rw [u2_a _ _ _ _ (by omega)]; unfold btl aYear; rw [up_n _ _ (by omega)]; exact C'.2.2.2.2.2 v hv
    · rw [u2_a _ _ _ _ (by unfold dT at ha; omega)]; exact f a i ha
  · intro j hj ih I' C' f
    have L' := rL_fr S L f
    have wj := (inv j (by omega)).1
    refine bX2_letYears_19 hX _ _ _ _ S.1 ⟨l, S.2.1, S.2.2.1, ?_⟩
    rw [L'.1 1 (by decide)]
    refine br_f (nI_ge hj (by omega)) (C_angelsShare hX S L' C' wj hj (fun I1 C1 f1 => ⟨nI_inN (by omega) (by decide), ?_⟩))
    rw [nI_ck (by omega), C'.2.2.1, i_add, nI_1]
    generalize hs : it (fun k so => aAng hd so k) j so = sj at *
    have ei : it (fun k so => aAng hd so k) (j + 1) so = aAng hd sj j := by rw [← hs]; rfl
    rw [ei] at ih
    refine ih _ ⟨?_, ?_, ?_, fun i v hi hv => ?_, fun i hi => ⟨?_, ?_⟩, fun v hv => ?_⟩ (fun a i ha => ?_)
    · rw [u2_a _ _ _ _ (by omega), u2_k _ _ _ _ (by decide)]; unfold aAng; rw [up_n _ _ (by omega), up_n _ _ (by decide)]; exact C1.1
    · rw [u2_a _ _ _ _ (by omega), u2_k _ _ _ _ (by decide)]; unfold aAng; rw [up_n _ _ (by omega), up_n _ _ (by decide)]; exact C1.2.1
    · rw [u2_a _ _ _ _ (by omega), u2_s]; unfold aAng; rw [up_n _ _ (by omega), up_s]
    · rw [u2_a _ _ _ _ (by omega), u2_a _ _ _ _ (by omega)]; unfold aAng; rw [wn_up _ _ _ _ (by omega), wn_up _ _ _ _ (by decide)]; exact C1.2.2.2.1 i v hi hv
    · rw [u2_a _ _ _ _ (by omega), u2_a _ _ _ _ (by omega)]; unfold aAng; rw [ltr_up (by omega), ltr_up (by decide)]; exact (C1.2.2.2.2.1 i hi).1
    · by_cases e : i = j
      · subst e; rw [u2_s]; unfold aAng; rw [up_s]; rfl
      · rw [u2_k _ _ _ _ e, u2_a _ _ _ _ (by omega)]; unfold aAng; rw [up_n _ _ (by omega), up_n _ _ (by omega)]; exact (C1.2.2.2.2.1 i hi).2
    · rw [u2_a _ _ _ _ (by omega), u2_a _ _ _ _ (by omega)]; unfold btl aAng; rw [up_n _ _ (by omega), up_n _ _ (by omega)]; exact C1.2.2.2.2.2 v hv
    · have ha' := ha
      unfold dT at ha'
      rw [u2_a _ _ _ _ (by omega), u2_a _ _ _ _ (by omega), f1 a i ha]; exact f a i ha
theorem C_letYears {m : Nat} (hm : m < 2147483648) (hX : shX P K) (S : sC P K c l) (L : rL I l hd) (C : rC I c hd so) (w : wf hd so) (h : ∀ I', rC I' c hd (yrs hd (if m ≤ 39 - so 0 then m else 39 - so 0) so) → frC c I I' → F (nI (if m ≤ 39 - so 0 then m else 39 - so 0)) I' J) : ckI G (d + 4) mX2_letYears [.ref 4, .ref c, .int (nI m)] I J P K n F := by
  have hy := w.2.2.2.2.2.2.1
  generalize hg : (if m ≤ 39 - so 0 then m else 39 - so 0) = g at h
  have hg1 : g ≤ m ∧ so 0 + g ≤ 39 ∧ (g = m ∨ so 0 + g = 39) := by rw [← hg]; split <;> omega
  have inv := yrs_inv w hg1.2.1
  refine bX2_letYears_0 _ _ ?_
  have key := loopN g (fun j => ∀ I', rC I' c hd (yrs hd j so) → frC c I I' → Ok G (d + 4) mX2_letYears 2 [some (.ref 4), some (.ref c), some (.int (nI m)), some (.int (nI j)), none] [] I' J P K n (kI P K n F)) ?_ ?_ 0 (by omega)
  · exact key I C (frC_rf _ _)
  · intro I' C' f
    refine bX2_letYears_2 _ _ _ S.1 ?_
    rw [C'.1, (inv g (Nat.le_refl _)).2, i_le (by omega) (by omega)]
    refine ⟨fun _ => h I' C' f, fun q => br_t (nI_le (a := 39) (by omega) (by omega)) (h I' C' f)⟩
  · intro j hj ih I' C' f
    have wj := (inv j (by omega))
    refine bX2_letYears_2 _ _ _ S.1 ?_
    rw [C'.1, wj.2]
    refine br_f (nI_ge (by omega) (by omega)) (br_f (nI_ge (b := 39) (by omega) (by decide)) ?_)
    refine C_year hX S (rL_fr S L f) C' wj.1 (fun I1 C1 f1 => ?_)
    rw [nI_1]
    exact ih I1 C1 (frC_tr f f1)
theorem wn_tpS_s {so : Nat → Nat} {k v : Nat} (hv : v < 40) (hy : so 0 < 40) : wn (tpS hd so k) k v = if v = so 0 then wn so k (so 0) + lck hd so k else wn so k v := by
  unfold tpS
  by_cases e : v = so 0
  · rw [if_pos e, e]; exact up_s _ _ _
  · rw [if_neg e]; exact up_n _ _ (by omega)
theorem wn_tpS_n {so : Nat → Nat} {k j v : Nat} (hv : v < 40) (hy : so 0 < 40) (hj : j ≠ k) : wn (tpS hd so k) j v = wn so j v := by
  unfold tpS
  exact up_n _ _ (by omega)
theorem ltr_tpS {so : Nat → Nat} {k : Nat} (hy : so 0 < 40) : ltr (tpS hd so k) k = ltr so k + lck hd so k := by
  have h1 : ltr (tpS hd so k) k = sm (fun v => if v = so 0 then wn so k (so 0) + lck hd so k else wn so k v) 40 := sm_congr (fun v hv => wn_tpS_s hv hy)
  have h2 := sm_upd (f := wn so k) (n := 40) (k := so 0) (v := wn so k (so 0) + lck hd so k) hy
  unfold ltr at *
  omega
theorem C_tryTop (hX : shX P K) (S : sC P K c l) (L : rL I l hd) (C : rC I c hd so) (w : wf hd so) (h : ∀ I', rC I' c hd (dif hd so 2 0 0 0) → frC c I I' → F (nI (aWhy hd so 2 0 0 0)) I' J) : ckI G (d + 2) mX2_tryTop [.ref 4, .ref c] I J P K n F := by
  have hc := wf_casks w
  have h0 := w.1
  have c34 := S.2.2.2.1
  have hy := w.2.2.2.2.2.2.1
  have ew : aWhy hd so 2 0 0 0 = wTop hd so := rfl
  unfold dif at h
  rw [ew] at h
  unfold wTop at h
  refine bX2_tryTop_0 _ S.1 ⟨l, S.2.1, S.2.2.1, ?_⟩
  rw [L.1 0 (by decide)]
  by_cases z : hd 0 = 0
  · rw [if_pos z, if_neg (by decide)] at h
    rw [z]
    exact br_t (by decide) (h I C (frC_rf _ _))
  · rw [if_neg z] at h
    have e1 : nI (hd 0) - 1 = nI (hd 0 - 1) := i_sub (b := 1) (by omega)
    have hs : hd 0 - 1 < hd 0 := by omega
    rw [e1]
    refine br_f (nI_pos (by omega)) (C_lackOfScale S L C w hs ?_)
    have hle := ssc_le w hs (f := lck hd so) (fun k hk => lck_le w hk)
    by_cases z2 : ssc hd (lck hd so) (hd 0 - 1) = 0
    · rw [if_pos z2, if_neg (by decide)] at h
      rw [z2]
      exact br_t rfl (h I C (frC_rf _ _))
    · rw [if_neg z2, if_pos rfl] at h
      refine br_f (nI_ne0 (by omega) (by omega)) ⟨l, S.2.1, S.2.2.1, nI_inN (by omega) (by decide), ?_⟩
      have hsz := (w.2.1 _ hs).2.1
      have hff := wf_fst w (s := hd 0 - 1) (by omega)
      rw [nI_ck (by omega), (L.2.1 _ hs).2.2]
      have inv := wf_top w (show 0 < hd 0 by omega)
      have key := loopN (hd (5 + (hd 0 - 1))) (fun j => ∀ I', rC I' c hd (it (fun i so => tpS hd so (fst' hd (hd 0 - 1) + i)) j so) → frC c I I' → Ok G (d + 2) mX2_tryTop 37 [none, some (.ref c), some (.int (nI (hd 0 - 1))), some (.int (nI (fst' hd (hd 0 - 1)))), some (.int (nI j)), none] [] I' J P K n (kI P K n F)) ?_ ?_ 0 (by omega)
      · exact key I C (frC_rf _ _)
      · intro I' C' f
        have L' := rL_fr S L f
        refine bX2_tryTop_37 _ _ _ _ S.1 ⟨l, S.2.1, S.2.2.1, nI_inN (by omega) (by decide), ?_⟩
        rw [nI_ck (by omega), (L'.2.1 _ hs).1]
        exact br_t (nI_le (Nat.le_refl _) (by omega)) (h I' C' f)
      · intro j hj ih I' C' f
        have L' := rL_fr S L f
        have wj := inv j (by omega)
        have hk := wf_in w hs hj
        refine bX2_tryTop_37 _ _ _ _ S.1 ⟨l, S.2.1, S.2.2.1, nI_inN (by omega) (by decide), ?_⟩
        rw [nI_ck (show hd 0 - 1 < 2147483648 by omega), (L'.2.1 _ hs).1, i_add]
        refine br_f (nI_ge hj (by omega)) ?_
        generalize hs2 : it (fun i so => tpS hd so (fst' hd (hd 0 - 1) + i)) j so = sj at *
        have ei : it (fun i so => tpS hd so (fst' hd (hd 0 - 1) + i)) (j + 1) so = tpS hd sj (fst' hd (hd 0 - 1) + j) := by rw [← hs2]; rfl
        rw [ei] at ih
        generalize hkk : fst' hd (hd 0 - 1) + j = kk at *
        have hvk : vp_in (nI kk) 20 := nI_inN (by omega) (by decide)
        have hv4 : vp_in (I' c 1) 40 := by rw [C'.1, wj.2]; exact nI_inN (by omega) (by decide)
        refine C_lackOf S L' C' wj.1 hk ⟨hvk, hv4, hv4, hvk, hvk, ?_⟩
        rw [C'.1, wj.2, nI_ck (by omega), nI_ck (by omega), u2_a _ _ _ _ (show c + 22 ≠ c + 2 + kk by omega), (C'.2.2.2.2.1 kk hk).1, C'.2.2.2.1 kk (so 0) hk (by omega), i_add, i_add, nI_1]
        have y40 : sj 0 < 40 := by omega
        refine ih _ ⟨?_, ?_, ?_, fun i v hi hv => ?_, fun i hi => ⟨?_, ?_⟩, fun v hv => ?_⟩ (fun a i ha => ?_)
        · rw [u2_a _ _ _ _ (by omega), u2_a _ _ _ _ (by omega)]; unfold tpS; rw [up_n _ _ (by omega)]; exact C'.1
        · rw [u2_a _ _ _ _ (by omega), u2_a _ _ _ _ (by omega)]; unfold tpS; rw [up_n _ _ (by omega)]; exact C'.2.1
        · rw [u2_a _ _ _ _ (by omega), u2_a _ _ _ _ (by omega)]; unfold tpS; rw [up_n _ _ (by omega)]; exact C'.2.2.1
        · rw [u2_a _ _ _ _ (by omega)]
          by_cases e : i = kk
          · subst e
            rw [wn_tpS_s hv y40, wj.2]
            by_cases e2 : v = so 0
            · subst e2; rw [u2_s, if_pos rfl]
            · rw [u2_k _ _ _ _ e2, if_neg e2]; exact C'.2.2.2.1 i v hi hv
          · rw [u2_a _ _ _ _ (by omega), wn_tpS_n hv y40 e]; exact C'.2.2.2.1 i v hi hv
        · by_cases e : i = kk
          · subst e; rw [u2_s, ltr_tpS y40]
          · rw [u2_k _ _ _ _ e, u2_a _ _ _ _ (by omega), ltr_congr (fun v hv => wn_tpS_n hv y40 e)]; exact (C'.2.2.2.2.1 i hi).1
        · rw [u2_a _ _ _ _ (by omega), u2_a _ _ _ _ (by omega)]; unfold tpS; rw [up_n _ _ (by omega)]; exact (C'.2.2.2.2.1 i hi).2
        · rw [u2_a _ _ _ _ (by omega), u2_a _ _ _ _ (by omega)]; unfold btl tpS; rw [up_n _ _ (by omega)]; exact C'.2.2.2.2.2 v hv
        · have ha' := ha
          unfold dT at ha'
          rw [u2_a _ _ _ _ (by omega), u2_a _ _ _ _ (by omega)]; exact f a i ha
end Man2
