/-! the class: a scale is run down -/
section Man3
variable {G : gG} {d : Nat} {I : sI} {J : sJ} {P : sP} {K : sK} {n : Nat} {F : Int32 → sI → sJ → Prop} {FV : sI → sJ → Prop} {hd so : Nat → Nat} {c l : Nat}
theorem rC_of {I I' : sI} (C : rC I c hd so) (h : ∀ a k, c ≤ a → a ≤ c + 24 → I' a k = I a k) (hc : hd 1 ≤ 20) : rC I' c hd so := ⟨(h _ _ (by omega) (by omega)).trans C.1, (h _ _ (by omega) (by omega)).trans C.2.1, (h _ _ (by omega) (by omega)).trans C.2.2.1, fun k v hk hv => (h _ _ (by omega) (by omega)).trans (C.2.2.2.1 k v hk hv), fun k hk => ⟨(h _ _ (by omega) (by omega)).trans (C.2.2.2.2.1 k hk).1, (h _ _ (by omega) (by omega)).trans (C.2.2.2.2.1 k hk).2⟩, fun v hv => (h _ _ (by omega) (by omega)).trans (C.2.2.2.2.2 v hv)⟩
theorem C_mixFrom {s : Nat} (hX : shX P K) (S : sC P K c l) (L : rL I l hd) (C : rC I c hd so) (w : wf hd so) (hs : s + 1 < hd 0) (hL : ssc hd (lck hd so) s ≤ ssc hd (ltr so) (s + 1)) (h : ∀ I', rC I' c hd (rnP hd so s).1 → (∀ v, v < 40 → I' 7 v = nI ((rnP hd so s).2 v)) → frC c I I' → FV I' J) : ckV G (d + 3) mX2_mixFrom [.ref 4, .ref c, .int (nI (s + 1)), .int (nI (ssc hd (lck hd so) s))] I J P K n FV := by
  have hc := wf_casks w
  have h0 := w.1
  have c34 := S.2.2.2.1
  have hsz := (w.2.1 _ hs).2.1
  have hsz1 := (w.2.1 _ hs).1
  have hff := wf_fst w (s := s + 1) (by omega)
  have hv : vp_in (nI (s + 1)) 5 := nI_inN (by omega) (by decide)
  have hle := ssc_le w hs (f := ltr so) (fun k hk => wf_ltr w hk)
  refine bX2_mixFrom_0 _ _ _ S.1 ⟨l, S.2.1, S.2.2.1, hv, l, S.2.1, S.2.2.1, hv, ?_⟩
  rw [nI_ck (by omega), (L.2.1 _ hs).1, (L.2.1 _ hs).2.2]
  have inv := rnM_inv w hs hL
  have key := loopN (hd (5 + (s + 1))) (fun j => ∀ I', (∀ i, i < j → I' 8 i = nI (ltr so (fst' hd (s + 1) + i))) → (∀ a k, a ≠ 8 → I' a k = I a k) → Ok G (d + 3) mX2_mixFrom 25 [some (.ref 4), some (.ref c), none, some (.int (nI (ssc hd (lck hd so) s))), some (.int (nI (fst' hd (s + 1)))), some (.int (nI (hd (5 + (s + 1))))), some (.int (nI j)), none] [] I' J P K n (kV P K n FV)) ?_ ?_ 0 (by omega)
  · exact key I (fun i hi => by omega) (fun _ _ _ => rfl)
  · intro I1 p1 p2
    refine bX2_mixFrom_25 hX _ _ _ _ _ S.1 (br_t (nI_le (Nat.le_refl _) (by omega)) ?_)
    refine C_share (a := 8) (b := 9) (m := hd (5 + (s + 1))) (own := fun j => ltr so (fst' hd (s + 1) + j)) hX (shX_K8 hX) (shX_K9 hX) (by decide) (by decide) (by omega) (by omega) (by omega) (by decide) (by decide) (by decide) p1 hL (by show ssc hd (ltr so) (s + 1) ≤ _; omega) (fun I2 g1 g2 => ?_)
    refine C_fill 0 (shX_K7 hX) (by decide) ?_
    generalize hB : wr I2 7 0 40 (fun _ => (0 : Int32)) = B
    have b7 : ∀ v, v < 40 → B 7 v = 0 := fun v hv => by
      have := wr_in I2 7 0 40 (fun _ => (0 : Int32)) hv
      rw [Nat.zero_add, hB] at this; exact this
    have bo : ∀ a k, a ≠ 7 → B a k = I2 a k := fun a k ha => by rw [← hB]; exact wr_a _ _ _ _ _ ha
    have b9 : ∀ i, i < hd (5 + (s + 1)) → B 9 i = nI (rAm hd so s i) := fun i hi => (bo 9 i (by decide)).trans (g1 i hi)
    have bI : ∀ a k, ¬ (5 ≤ a ∧ a ≤ 9) → B a k = I a k := fun a k ha => by rw [bo a k (by omega), g2 a k (by omega) (by omega)]; exact p2 a k (by omega)
    have CB : rC B c hd so := rC_of C (fun a k a1 a2 => bI a k (by omega)) hc
    have am := shr_ok (own := fun j => ltr so (fst' hd (s + 1) + j)) (m := hd (5 + (s + 1))) hL
    have key2 := loopN (hd (5 + (s + 1))) (fun j => ∀ I', rC I' c hd (rnM hd so s j).1 → (∀ v, v < 40 → I' 7 v = nI ((rnM hd so s j).2 v)) → (∀ i, I' 9 i = B 9 i) → frC c I I' → Ok G (d + 3) mX2_mixFrom 81 [some (.ref 4), some (.ref c), none, none, some (.int (nI (fst' hd (s + 1)))), some (.int (nI (hd (5 + (s + 1))))), some (.int (nI j)), none] [] I' J P K n (kV P K n FV)) ?_ ?_ 0 (by omega)
    · exact key2 B CB (fun v hv => by rw [b7 v hv]; rfl) (fun _ => rfl) (fun a k ha => bI a k (by unfold dT at ha; omega))
    · intro I' C' q7 q9 f
      exact bX2_mixFrom_81 hX _ _ _ _ (br_t (nI_le (Nat.le_refl _) (by omega)) (h I' C' q7 f))
    · intro j hj ih I' C' q7 q9 f
      have ij := inv j (by omega)
      have hk := wf_in w hs hj
      have hlt : ltr (rnM hd so s j).1 (fst' hd (s + 1) + j) = ltr so (fst' hd (s + 1) + j) := ltr_congr (fun v hv => ij.2.2.1 _ (Or.inr (Nat.le_refl _)) v hv)
      have ham : rAm hd so s j ≤ ltr so (fst' hd (s + 1) + j) := am.1 j hj
      refine bX2_mixFrom_81 hX _ _ _ _ (br_f (nI_ge hj (by omega)) ⟨nI_inN (by omega) (by decide), ?_⟩)
      rw [nI_ck (by omega), q9 j, b9 j hj, i_add]
      refine C_takeOut hX S C' ij.1 hk (by rw [hlt]; exact ham) (fun I3 C3 g3 g4 => ?_)
      have key3 := loopN 40 (fun u => ∀ I4, (∀ v, v < u → I4 7 v = nI ((rnM hd so s (j + 1)).2 v)) → (∀ v, v < 40 → u ≤ v → I4 7 v = nI ((rnM hd so s j).2 v)) → (∀ a k, a ≠ 7 → I4 a k = I3 a k) → Ok G (d + 3) mX2_mixFrom 108 [some (.ref 4), some (.ref c), none, none, some (.int (nI (fst' hd (s + 1)))), some (.int (nI (hd (5 + (s + 1))))), some (.int (nI j)), some (.int (nI u))] [] I4 J P K n (kV P K n FV)) ?_ ?_ 0 (by omega)
      · exact key3 I3 (fun v hv => by omega) (fun v hv _ => by rw [g4 7 v (by omega) (by omega) (by decide) (by decide)]; exact q7 v hv) (fun _ _ _ => rfl)
      · intro I4 r1 r2 r3
        refine bX2_mixFrom_108 hX _ _ _ _ _ (br_t (nI_le (b := 40) (Nat.le_refl _) (by decide)) ?_)
        rw [nI_1]
        refine ih I4 (rC_of C3 (fun a k a1 a2 => r3 a k (by omega)) hc) r1 (fun i => ?_) (fun a k ha => ?_)
        · rw [r3 9 i (by decide), g4 9 i (by omega) (by omega) (by decide) (by decide)]; exact q9 i
        · have ha' := ha
          unfold dT at ha'
          rw [r3 a k (by omega), g4 a k (by omega) (by omega) (by omega) (by omega)]; exact f a k ha
      · intro u hu ihu I4 r1 r2 r3
        have hv3 : vp_in (nI u) 40 := nI_inN hu (by decide)
        refine bX2_mixFrom_108 hX _ _ _ _ _ (br_f (nI_ge (b := 40) hu (by decide)) ⟨hv3, hv3, hv3, ?_⟩)
        rw [nI_ck (by omega), r2 u hu (Nat.le_refl _), r3 6 u (by decide), g3 u hu, i_add, nI_1]
        refine ihu _ (fun v hv => ?_) (fun v hv hv2 => ?_) (fun a k ha => ?_)
        · by_cases e : v = u
          · subst e; rw [u2_s]; rfl
          · rw [u2_k _ _ _ _ e]; exact r1 v (by omega)
        · rw [u2_k _ _ _ _ (by omega)]; exact r2 v hv (by omega)
        · rw [u2_a _ _ _ _ ha]; exact r3 a k ha
  · intro j hj ih I' p1 p2
    have hk := wf_in w hs hj
    refine bX2_mixFrom_25 hX _ _ _ _ _ S.1 (br_f (nI_ge hj (by omega)) ?_)
    rw [i_add, nI_ck (by omega), nI_ck (by omega), p2 (c + 22) _ (by omega), (C.2.2.2.2.1 _ hk).1, nI_1]
    refine ⟨nI_inN (by omega) (by decide), nI_inN (by omega) (by decide), ih _ (fun i hi => ?_) (fun a k ha => ?_)⟩
    · by_cases e : i = j
      · subst e; rw [u2_s]
      · rw [u2_k _ _ _ _ e]; exact p1 i (by omega)
    · rw [u2_a _ _ _ _ ha]; exact p2 a k ha
theorem C_fillFromMix {s : Nat} {I0 : sI} (hX : shX P K) (S : sC P K c l) (L : rL I l hd) (C : rC I c hd (rnP hd so s).1) (w : wf hd so) (hs : s + 1 < hd 0) (hL : ssc hd (lck hd so) s ≤ ssc hd (ltr so) (s + 1)) (h7 : ∀ v, v < 40 → I 7 v = nI ((rnP hd so s).2 v)) (f0 : frC c I0 I) (h : ∀ I', rC I' c hd (aRun hd so s) → frC c I0 I' → FV I' J) : ckV G (d + 3) mX2_fillFromMix [.ref 4, .ref c, .int (nI s)] I J P K n FV := by
  have hc := wf_casks w
  have h0 := w.1
  have c34 := S.2.2.2.1
  have hs0 : s < hd 0 := by omega
  have hsz := (w.2.1 _ hs0).2.1
  have hff := wf_fst w (s := s) (by omega)
  have hv : vp_in (nI s) 5 := nI_inN (by omega) (by decide)
  have hle := ssc_le w hs0 (f := lck hd so) (fun k hk => lck_le w hk)
  refine bX2_fillFromMix_0 _ _ S.1 ⟨l, S.2.1, S.2.2.1, hv, ?_⟩
  rw [nI_ck (by omega), (L.2.1 _ hs0).2.2]
  have inv := rnF_inv w hs hL
  have key := loopN (hd (5 + s)) (fun j => ∀ I', rC I' c hd (rnF hd s (rnP hd so s) j).1 → (∀ v, v < 40 → I' 7 v = nI ((rnF hd s (rnP hd so s) j).2 v)) → frC c I I' → Ok G (d + 3) mX2_fillFromMix 13 [some (.ref 4), some (.ref c), some (.int (nI s)), some (.int (nI (fst' hd s))), some (.int (nI j)), none, none] [] I' J P K n (kV P K n FV)) ?_ ?_ 0 (by omega)
  · exact key I C h7 (frC_rf _ _)
  · intro I' C' q7 f
    have L' := rL_fr S L f
    refine bX2_fillFromMix_13 hX _ _ _ _ S.1 ⟨l, S.2.1, S.2.2.1, hv, ?_⟩
    rw [nI_ck (by omega), (L'.2.1 _ hs0).1]
    exact br_t (nI_le (Nat.le_refl _) (by omega)) (h I' C' (frC_tr f0 f))
  · intro j hj ih I' C' q7 f
    have L' := rL_fr S L f
    have ij := inv j (by omega)
    have hk := wf_in w hs0 hj
    refine bX2_fillFromMix_13 hX _ _ _ _ S.1 ⟨l, S.2.1, S.2.2.1, hv, ?_⟩
    rw [nI_ck (show s < 2147483648 by omega), (L'.2.1 _ hs0).1, i_add]
    refine br_f (nI_ge hj (by omega)) (C_lackOf S L' C' ij.1 hk ?_)
    have hst : rnF hd s (rnP hd so s) (j + 1) = (ptt (rnF hd s (rnP hd so s) j).1 (fst' hd s + j) (shr (rnF hd s (rnP hd so s) j).2 40 (lck hd (rnF hd s (rnP hd so s) j).1 (fst' hd s + j))), fun v => (rnF hd s (rnP hd so s) j).2 v - shr (rnF hd s (rnP hd so s) j).2 40 (lck hd (rnF hd s (rnP hd so s) j).1 (fst' hd s + j)) v) := rfl
    rw [hst] at ih
    have hlk : lck hd (rnF hd s (rnP hd so s) j).1 (fst' hd s + j) = lck hd so (fst' hd s + j) := by
      unfold lck
      rw [ltr_congr (fun v hv => ij.2.2.1 _ (Nat.le_refl _) (by rw [fst_succ]; omega) v hv)]
    generalize hR : rnF hd s (rnP hd so s) j = R at *
    have hsum := ij.2.2.2.1
    have hpart : sm (fun i => lck hd so (fst' hd s + i)) j + lck hd so (fst' hd s + j) ≤ ssc hd (lck hd so) s := by
      have : sm (fun i => lck hd so (fst' hd s + i)) (j + 1) ≤ ssc hd (lck hd so) s := sm_mono (by omega)
      exact this
    have hx : lck hd R.1 (fst' hd s + j) ≤ sm R.2 40 := by omega
    have sk := shr_ok (own := R.2) (m := 40) hx
    refine C_share (a := 7) (b := 6) (m := 40) (own := R.2) hX (shX_K7 hX) (shX_K6 hX) (by decide) (by decide) (by decide) (by decide) (by decide) (by decide) (by decide) (by decide) q7 hx (by omega) (fun I2 g1 g2 => ?_)
    have key3 := loopN 40 (fun u => ∀ I4, (∀ v, v < u → I4 7 v = nI (R.2 v - shr R.2 40 (lck hd R.1 (fst' hd s + j)) v)) → (∀ v, v < 40 → u ≤ v → I4 7 v = nI (R.2 v)) → (∀ a k, a ≠ 7 → I4 a k = I2 a k) → Ok G (d + 3) mX2_fillFromMix 56 [some (.ref 4), some (.ref c), some (.int (nI s)), some (.int (nI (fst' hd s))), some (.int (nI j)), some (.int (nI (lck hd R.1 (fst' hd s + j)))), some (.int (nI u))] [] I4 J P K n (kV P K n FV)) ?_ ?_ 0 (by omega)
    · exact key3 I2 (fun v hv => by omega) (fun v hv _ => by rw [g2 7 v (by decide) (by decide)]; exact q7 v hv) (fun _ _ _ => rfl)
    · intro I4 r1 r2 r3
      refine bX2_fillFromMix_56 hX _ _ _ _ _ _ (br_t (nI_le (b := 40) (Nat.le_refl _) (by decide)) ?_)
      rw [i_add, nI_1]
      have o4 : ∀ a k, ¬ (5 ≤ a ∧ a ≤ 9) → I4 a k = I' a k := fun a k ha => by rw [r3 a k (by omega)]; exact g2 a k (by omega) (by omega)
      refine C_putIn (s := shr R.2 40 (lck hd R.1 (fst' hd s + j))) hX S (rC_of C' (fun a k a1 a2 => o4 a k (by omega)) hc) ij.1 hk (fun v hv => by rw [r3 6 v (by decide)]; exact g1 v hv) sk.2.symm (fun I5 C5 g5 => ?_)
      refine ih I5 C5 (fun v hv => ?_) (fun a k ha => ?_)
      · rw [g5 7 v (by omega) (by omega)]; exact r1 v hv
      · have ha' := ha
        unfold dT at ha'
        rw [g5 a k (by omega) (by omega), o4 a k (by omega)]; exact f a k ha
    · intro u hu ihu I4 r1 r2 r3
      have hv3 : vp_in (nI u) 40 := nI_inN hu (by decide)
      refine bX2_fillFromMix_56 hX _ _ _ _ _ _ (br_f (nI_ge (b := 40) hu (by decide)) ⟨hv3, hv3, hv3, ?_⟩)
      rw [nI_ck (by omega), r2 u hu (Nat.le_refl _), r3 6 u (by decide), g1 u hu, i_sub (sk.1 u hu), nI_1]
      refine ihu _ (fun v hv => ?_) (fun v hv hv2 => ?_) (fun a k ha => ?_)
      · by_cases e : v = u
        · subst e; rw [u2_s]
        · rw [u2_k _ _ _ _ e]; exact r1 v (by omega)
      · rw [u2_k _ _ _ _ (by omega)]; exact r2 v hv (by omega)
      · rw [u2_a _ _ _ _ ha]; exact r3 a k ha
theorem C_tryRun {s : Nat} (hX : shX P K) (S : sC P K c l) (L : rL I l hd) (C : rC I c hd so) (w : wf hd so) (hs : s < hd 0) (h : ∀ I', rC I' c hd (dif hd so 1 s 0 0) → frC c I I' → F (nI (aWhy hd so 1 s 0 0)) I' J) : ckI G (d + 4) mX2_tryRun [.ref 4, .ref c, .int (nI s)] I J P K n F := by
  have h0 := w.1
  have ew : aWhy hd so 1 s 0 0 = wRun hd so s := rfl
  have el : aLive hd so 1 s 0 0 = aRun hd so s := rfl
  unfold dif at h
  rw [ew, el] at h
  unfold wRun at h
  have hle := ssc_le w hs (f := lck hd so) (fun k hk => lck_le w hk)
  refine bX2_tryRun_0 hX _ _ S.1 (C_lackOfScale S L C w hs ?_)
  by_cases z : ssc hd (lck hd so) s = 0
  · rw [if_pos z, if_neg (by decide)] at h
    rw [z]
    exact br_t rfl (h I C (frC_rf _ _))
  · rw [if_neg z] at h
    refine br_f (nI_ne0 (by omega) (by omega)) ⟨l, S.2.1, S.2.2.1, ?_⟩
    have e1 : nI (hd 0) - 1 = nI (hd 0 - 1) := i_sub (b := 1) (by omega)
    rw [L.1 0 (by decide), e1, i_lt (by omega) (by omega)]
    refine ⟨fun q => ?_, fun q => ?_⟩
    · rw [if_neg (show ¬ s + 1 = hd 0 by omega)] at h
      rw [nI_1]
      have hs1 : s + 1 < hd 0 := by omega
      have hle2 := ssc_le w hs1 (f := ltr so) (fun k hk => wf_ltr w hk)
      refine C_haveOfScale S L C w hs1 ?_
      rw [i_le (by omega) (by omega)]
      refine ⟨fun q2 => ?_, fun q2 => ?_⟩
      · rw [if_neg (show ¬ ssc hd (ltr so) (s + 1) < ssc hd (lck hd so) s by omega), if_pos rfl] at h
        refine C_mixFrom hX S L C w hs1 q2 (fun I1 C1 g1 f1 => ?_)
        exact C_fillFromMix (I0 := I) hX S (rL_fr S L f1) C1 w hs1 q2 g1 f1 h
      · rw [if_pos (show ssc hd (ltr so) (s + 1) < ssc hd (lck hd so) s by omega), if_neg (by decide)] at h
        exact h I C (frC_rf _ _)
    · rw [if_pos (show s + 1 = hd 0 by omega), if_neg (by decide)] at h
      exact h I C (frC_rf _ _)
end Man3
