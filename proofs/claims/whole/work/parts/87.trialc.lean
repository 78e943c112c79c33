/-! the class: ripe, plan -/
/-- a year for cask k alone -/
def aRip (hd : Nat → Nat) (k : Nat) (so : Nat → Nat) : Nat → Nat := up (tak so k (angA hd so k)) 0 (so 0 + 1)
def eqK (k : Nat) (so so' : Nat → Nat) : Prop := so 0 = so' 0 ∧ ∀ v, v < 40 → wn so k v = wn so' k v
theorem eqK_ltr {k : Nat} {so so' : Nat → Nat} (h : eqK k so so') : ltr so k = ltr so' k := ltr_congr h.2
theorem eqK_ripB {k a : Nat} {so so' : Nat → Nat} (h : eqK k so so') : ripB k a so = ripB k a so' := by
  have e1 := eqK_ltr h
  have e2 : ags so k = ags so' k := sm_congr (fun v hv => by rw [h.2 v hv, h.1])
  unfold ripB
  rw [e1, e2]
theorem shr_congr40 {f g : Nat → Nat} {x : Nat} (h : ∀ v, v < 40 → f v = g v) {v : Nat} (hv : v < 40) : shr f 40 x v = shr g 40 x v := shr_congr h (by decide) v hv
theorem eqK_step {hd : Nat → Nat} {k : Nat} {so so' : Nat → Nat} (hc : hd 1 ≤ 20) (hk : k < hd 1) (h : eqK k so so') : eqK k (aRip hd k so) (aYear hd so') := by
  have e1 := eqK_ltr h
  have an : ∀ j, j ≤ hd 1 → ∀ v, v < 40 → wn (it (fun k so => aAng hd so k) j so') k v = if k < j then wn (tak so' k (angA hd so' k)) k v else wn so' k v := by
    intro j
    induction j with
    | zero => intro _ v hv; rw [if_neg (by omega)]; rfl
    | succ j ih =>
      intro hj v hv
      have st : it (fun k so => aAng hd so k) (j + 1) so' = aAng hd (it (fun k so => aAng hd so k) j so') j := rfl
      rw [st]
      unfold aAng
      rw [wn_up _ _ _ _ (by omega), wn_up _ _ _ _ (by decide)]
      by_cases c : k = j
      · subst c
        rw [if_pos (by omega)]
        have el : ∀ v, v < 40 → wn (it (fun k so => aAng hd so k) k so') k v = wn so' k v := fun v hv => by rw [ih (by omega) v hv, if_neg (by omega)]
        have ea : angA hd (it (fun k so => aAng hd so k) k so') k = angA hd so' k := by unfold angA; rw [ltr_congr el]
        unfold tak
        rw [wn_rg_s _ _ _ hv, wn_rg_s _ _ _ hv]
        have : angA hd (it (fun k so => up (up (rg so (63 + 40 * k) fun v => wn so k v - shr (wn so k) 40 (angA hd so k) v) 2 (so 2 + angA hd so k)) (43 + k) 0) k so') k = angA hd so' k := ea
        have el2 : ∀ v, v < 40 → wn (it (fun k so => up (up (rg so (63 + 40 * k) fun v => wn so k v - shr (wn so k) 40 (angA hd so k) v) 2 (so 2 + angA hd so k)) (43 + k) 0) k so') k v = wn so' k v := el
        rw [this, el2 v hv, shr_congr40 el2 hv]
      · have : wn (tak (it (fun k so => aAng hd so k) j so') j (angA hd (it (fun k so => aAng hd so k) j so') j)) k v = wn (it (fun k so => aAng hd so k) j so') k v := by
          unfold tak; exact wn_rg_n _ _ hv c
        have h2 := ih (by omega) v hv
        unfold aAng at this h2
        rw [this, h2]
        by_cases q : k < j
        · rw [if_pos q, if_pos (by omega)]
        · rw [if_neg q, if_neg (by omega)]
  refine ⟨?_, fun v hv => ?_⟩
  · unfold aRip aYear; rw [up_s, up_s, h.1]
  · have hy := an (hd 1) (Nat.le_refl _) v hv
    rw [if_pos hk] at hy
    unfold aRip aYear
    rw [wn_up _ _ _ _ (by decide), wn_up _ _ _ _ (by decide), hy]
    unfold tak
    rw [wn_rg_s _ _ _ hv, wn_rg_s _ _ _ hv, h.2 v hv]
    have ea : angA hd so k = angA hd so' k := by unfold angA; rw [e1]
    rw [ea, shr_congr40 h.2 hv]
theorem whl_ripe {hd : Nat → Nat} {k a : Nat} (hc : hd 1 ≤ 20) (hk : k < hd 1) : ∀ (m : Nat) (so so' : Nat → Nat) (t : Nat), eqK k so so' → whl (ripB k a) (aRip hd k) m so t = whl (ripB k a) (aYear hd) m so' t := by
  intro m
  induction m with
  | zero => intro so so' t h; simp only [whl]; rw [eqK_ripB h]
  | succ m ih => intro so so' t h; simp only [whl]; rw [eqK_ripB h, ih _ _ _ (eqK_step hc hk h)]
theorem wf_y1 {hd so : Nat → Nat} (w : wf hd so) (hy : so 0 < 39) : wf hd (up so 0 (so 0 + 1)) := by
  refine ⟨w.1, w.2.1, w.2.2.1, w.2.2.2.1, w.2.2.2.2.1, w.2.2.2.2.2.1, ?_, fun k hk => ?_, fun k v hk h1 h2 => ?_, fun k hk => ?_, w.2.2.2.2.2.2.2.2.2.2⟩
  · rw [up_s]; omega
  · rw [ltr_up (by decide)]; exact w.2.2.2.2.2.2.2.1 k hk
  · rw [up_s] at h1; rw [wn_up _ _ _ _ (by decide)]; exact w.2.2.2.2.2.2.2.2.1 k v hk (by omega) h2
  · rw [up_n _ _ (by omega)]; exact w.2.2.2.2.2.2.2.2.2.1 k hk
theorem wf_rip {hd so : Nat → Nat} (w : wf hd so) (hy : so 0 < 39) (k : Nat) : wf hd (aRip hd k so) := by
  have w1 := wf_tak w (angA_le w k)
  have e : (tak so k (angA hd so k)) 0 = so 0 := tak_lo (by decide)
  have := wf_y1 w1 (by omega)
  unfold aRip
  rw [e] at this
  exact this
section TrialC
variable {G : gG} {d : Nat} {I : sI} {J : sJ} {P : sP} {K : sK} {n : Nat} {F : Int32 → sI → sJ → Prop} {FV : sI → sJ → Prop} {hd so : Nat → Nat} {c l : Nat}
theorem rC_year {I : sI} (C : rC I c hd so) (hc : hd 1 ≤ 20) (y : Nat) : rC (u2 I c 1 (nI y)) c hd (up so 0 y) := ⟨by rw [u2_s, up_s], by rw [u2_k _ _ _ _ (by decide), up_n _ _ (by decide)]; exact C.2.1, by rw [u2_k _ _ _ _ (by decide), up_n _ _ (by decide)]; exact C.2.2.1, fun k v hk hv => by rw [u2_a _ _ _ _ (by omega), wn_up _ _ _ _ (by decide)]; exact C.2.2.2.1 k v hk hv, fun k hk => ⟨by rw [u2_a _ _ _ _ (by omega), ltr_up (by decide)]; exact (C.2.2.2.2.1 k hk).1, by rw [u2_a _ _ _ _ (by omega), up_n _ _ (by omega)]; exact (C.2.2.2.2.1 k hk).2⟩, fun v hv => by rw [u2_a _ _ _ _ (by omega)]; unfold btl; rw [up_n _ _ (by omega)]; exact C.2.2.2.2.2 v hv⟩
theorem up_id (so : Nat → Nat) (k : Nat) : up so k (so k) = so := by funext i; unfold up; split <;> simp_all
theorem C_ripe21 {k a y0 : Nat} (hX : shX P K) (S : sC P K c l) (hk : k < hd 1) (ha : a < 40) : ∀ (m : Nat) (so : Nat → Nat) (t : Nat) (I : sI), so 0 + m = 39 → so 0 = y0 + t → rL I l hd → rC (u2 I c 1 (nI (so 0))) c hd so → wf hd so → (∀ I', frC c I I' → F (oN (whl (ripB k a) (aRip hd k) m so t)) I' J) → Ok G (d + 4) mX7_yearsToRipe 21 [none, some (.ref c), some (.ref 4), some (.int (nI k)), some (.int (nI a)), some (.int (nI y0)), some (.int (nI (so 0)))] [] I J P K n (kI P K n F) := by
  intro m
  have step : ∀ (so : Nat → Nat) (t : Nat) (I : sI) (res : Option Nat), so 0 ≤ 39 → so 0 = y0 + t → rL I l hd → rC (u2 I c 1 (nI (so 0))) c hd so → wf hd so → (∀ I', frC c I I' → F (oN (if ripB k a so then some t else res)) I' J) → (∀ I', ripB k a so = false → rC I' c hd (tak so k (angA hd so k)) → frC c I I' → (∀ I2, frC c I' I2 → F (oN res) I2 J) → Ok G (d + 4) mX7_yearsToRipe 21 [none, some (.ref c), some (.ref 4), some (.int (nI k)), some (.int (nI a)), some (.int (nI y0)), some (.int (nI (so 0 + 1)))] [] I' J P K n (kI P K n F)) → Ok G (d + 4) mX7_yearsToRipe 21 [none, some (.ref c), some (.ref 4), some (.int (nI k)), some (.int (nI a)), some (.int (nI y0)), some (.int (nI (so 0)))] [] I J P K n (kI P K n F) := by
    intro so t I res hy hyt L C w h hn
    have hc := wf_casks w
    have c34 := S.2.2.2.1
    have hl := wf_ltr w hk
    have hag := ags_le w hk
    have hal : a * ltr so k ≤ 39 * 400 := Nat.mul_le_mul (by omega) hl
    refine bX7_yearsToRipe_21 hX _ _ _ _ _ S.1 (br_f (nI_nlt (a := 39) hy (by decide)) ?_)
    have fu : frC c I (u2 I c 1 (nI (so 0))) := fun a k ha => u2_a _ _ _ _ (by unfold dT at ha; omega)
    refine C_agesOf S C w hk ⟨nI_inN (by omega) (by decide), ?_⟩
    rw [nI_ck (by omega), (C.2.2.2.2.1 k hk).1, i_mul, i_lt (by omega) (by omega)]
    refine ⟨fun q => ?_, fun q => ?_⟩
    · have er : ripB k a so = false := by unfold ripB; exact decide_eq_false (by omega)
      refine C_angelsShare hX S (rL_fr S L fu) C w hk (fun I1 C1 f1 => ?_)
      rw [nI_1]
      refine hn I1 er C1 (frC_tr fu f1) (fun I2 f2 => ?_)
      have := h I2 (frC_tr (frC_tr fu f1) f2)
      rw [er] at this
      exact this
    · have er : ripB k a so = true := by unfold ripB; exact decide_eq_true (by omega)
      have hh := h _ fu
      rw [er] at hh
      rw [i_sub (by omega), show so 0 - y0 = t by omega]
      exact hh
  induction m with
  | zero =>
    intro so t I hm hyt L C w h
    refine step so t I none (by omega) hyt L C w h (fun I' er C' f hh => ?_)
    exact bX7_yearsToRipe_21 hX _ _ _ _ _ S.1 (br_t (nI_lt (a := 39) (by omega) (by omega)) (hh I' (frC_rf _ _)))
  | succ m ih =>
    intro so t I hm hyt L C w h
    refine step so t I (whl (ripB k a) (aRip hd k) m (aRip hd k so) (t + 1)) (by omega) hyt L C w h (fun I' er C' f hh => ?_)
    have e0 : aRip hd k so 0 = so 0 + 1 := by unfold aRip; rw [up_s]
    have r := ih (aRip hd k so) (t + 1) I' (by omega) (by omega) (rL_fr S L f) ?_ (wf_rip w (by omega) k) hh
    · rw [e0] at r; exact r
    · rw [e0]
      unfold aRip
      exact rC_year C' (wf_casks w) (so 0 + 1)
theorem C_ripe {k a : Nat} (hX : shX P K) (S : sC P K c l) (L : rL I l hd) (C : rC I c hd so) (w : wf hd so) (hk : k < hd 1) (ha : a < 40) (h : ∀ I', frC c I I' → F (if ltr so k = 0 then -1 else oN (whl (ripB k a) (aYear hd) (39 - so 0) so 0)) I' J) : ckI G (d + 4) mX7_yearsToRipe [.ref 10, .ref c, .ref 4, .int (nI k), .int (nI a)] I J P K n F := by
  have hc := wf_casks w
  have hl := wf_ltr w hk
  have hy := w.2.2.2.2.2.2.1
  refine bX7_yearsToRipe_0 _ _ _ S.1 ⟨nI_inN (by omega) (by decide), ?_⟩
  rw [nI_ck (by omega), (C.2.2.2.2.1 k hk).1, C.1]
  by_cases z : ltr so k = 0
  · rw [z]
    have := h I (frC_rf _ _)
    rw [if_pos z] at this
    exact br_t rfl this
  · refine br_f (nI_ne0 (by omega) (by omega)) ?_
    refine C_ripe21 hX S hk ha (39 - so 0) so 0 I (by omega) (by omega) L ?_ w (fun I' f => ?_)
    · have := rC_year C hc (so 0)
      rw [up_id] at this
      exact this
    · have := h I' f
      rw [if_neg z, ← whl_ripe hc hk _ so so 0 ⟨rfl, fun _ _ => rfl⟩] at this
      exact this
theorem C_workByPlan {m : Nat} (hm : m ≤ 400) (hX : shX P K) (S : sC P K c l) (L : rL I l hd) (C : rC I c hd so) (w : wf hd so) (h0 : 0 < hd 0) (h : ∀ I', rC I' c hd (plT hd (plR hd (plD hd m so))) → frC c I I' → FV I' J) : ckV G (d + 5) mX7_workByPlan [.ref 10, .ref c, .ref 4, .int (nI m)] I J P K n FV := by
  have hc := wf_casks w
  have h5 := w.1
  have hsz := (w.2.1 0 h0).2.1
  have c34 := S.2.2.2.1
  have inD := plD_inv w m
  have wD : wf hd (plD hd m so) := (inD _ (Nat.le_refl _)).1
  have inR := plR_inv wD
  have hc5 : hd 5 ≤ hd 1 := by
    have h1 := fst_le hd (show 1 ≤ hd 0 by omega)
    have h2 : fst' hd 1 = hd 5 := by show sm _ 1 = _; simp [sm]
    rw [w.2.2.1]; omega
  refine bX7_workByPlan_0 _ _ ?_
  have key := loopN (hd 5) (fun j => ∀ I', rC I' c hd (it (fun k so => tak so k (if m ≤ ltr so k then m else ltr so k)) j so) → frC c I I' → Ok G (d + 5) mX7_workByPlan 3 [none, some (.ref c), some (.ref 4), some (.int (nI m)), some (.int (nI j))] [] I' J P K n (kV P K n FV)) ?_ ?_ 0 (by omega)
  · exact key I C (frC_rf _ _)
  · intro I' C' f
    have L' := rL_fr S L f
    refine bX7_workByPlan_3 hX _ _ _ S.1 ⟨l, S.2.1, S.2.2.1, ?_⟩
    rw [(L'.2.1 0 h0).1]
    refine br_t (nI_le (Nat.le_refl _) (by omega)) ?_
    have key2 := loopN (hd 0) (fun j => ∀ I2, rC I2 c hd (it (fun s so => if wRun hd so s = 0 then aRun hd so s else so) j (plD hd m so)) → frC c I I2 → Ok G (d + 5) mX7_workByPlan 44 [none, some (.ref c), some (.ref 4), none, some (.int (nI j))] [] I2 J P K n (kV P K n FV)) ?_ ?_ 0 (by omega)
    · exact key2 I' C' f
    · intro I2 C2 f2
      have L2 := rL_fr S L f2
      refine bX7_workByPlan_44 hX _ _ S.1 ⟨l, S.2.1, S.2.2.1, ?_⟩
      rw [L2.1 0 (by decide)]
      refine br_t (nI_le (Nat.le_refl _) (by omega)) ?_
      exact C_tryTop hX S L2 C2 (inR _ (Nat.le_refl _)).1 (fun I3 C3 f3 => h I3 C3 (frC_tr f2 f3))
    · intro j hj ih I2 C2 f2
      have L2 := rL_fr S L f2
      refine bX7_workByPlan_44 hX _ _ S.1 ⟨l, S.2.1, S.2.2.1, ?_⟩
      rw [L2.1 0 (by decide)]
      refine br_f (nI_ge hj (by omega)) ?_
      refine C_tryRun hX S L2 C2 (inR j (by omega)).1 hj (fun I3 C3 f3 => ?_)
      rw [nI_1]
      exact ih I3 C3 (frC_tr f2 f3)
  · intro j hj ih I' C' f
    have L' := rL_fr S L f
    have wj := inD j (by omega)
    have hk : j < hd 1 := by omega
    refine bX7_workByPlan_3 hX _ _ _ S.1 ⟨l, S.2.1, S.2.2.1, ?_⟩
    rw [(L'.2.1 0 h0).1]
    refine br_f (nI_ge hj (by show hd (5 + 0) < _; omega)) ⟨nI_inN (by omega) (by decide), ?_⟩
    rw [nI_ck (by omega), (C'.2.2.2.2.1 j hk).1, nI_1]
    have st : it (fun k so => tak so k (if m ≤ ltr so k then m else ltr so k)) (j + 1) so = tak (it (fun k so => tak so k (if m ≤ ltr so k then m else ltr so k)) j so) j (if m ≤ ltr (it (fun k so => tak so k (if m ≤ ltr so k then m else ltr so k)) j so) j then m else ltr (it (fun k so => tak so k (if m ≤ ltr so k then m else ltr so k)) j so) j) := rfl
    rw [st] at ih
    generalize hs : it (fun k so => tak so k (if m ≤ ltr so k then m else ltr so k)) j so = sj at *
    have hl := wf_ltr wj.1 hk
    have em : (if nI (ltr sj j) < nI m then nI (ltr sj j) else nI m) = nI (if m ≤ ltr sj j then m else ltr sj j) := by
      by_cases q : ltr sj j < m
      · rw [if_pos (nI_lt q (by omega)), if_neg (by omega)]
      · rw [if_neg (nI_nlt (by omega) (by omega)), if_pos (by omega)]
    rw [em]
    have hx : (if m ≤ ltr sj j then m else ltr sj j) ≤ ltr sj j := by split <;> omega
    refine C_takeOut hX S C' wj.1 hk hx (fun I3 C3 g1 g2 => ih I3 C3 (fun a i ha => ?_))
    have ha' := ha
    unfold dT at ha'
    rw [g2 a i (by omega) (by omega) (by omega) (by omega)]; exact f a i ha
theorem C_plan22 {m a y0 : Nat} (hm : m ≤ 400) (hX : shX P K) (S : sC P K c l) (h0 : 0 < hd 0) (ha : a < 40) : ∀ (r : Nat) (so : Nat → Nat) (t : Nat) (I : sI), so 0 + r = 39 → so 0 = y0 + t → rL I l hd → rC I c hd so → wf hd so → (∀ I', frC c I I' → F (oN (whl (oldB hd a) (aPlan hd m) r so t)) I' J) → Ok G (d + 6) mX7_yearsByPlan 22 [some (.ref 10), some (.ref c), some (.ref 4), some (.int (nI m)), some (.int (nI a)), some (.int (nI y0)), some (.int (nI (so 0))), none] [] I J P K n (kI P K n F) := by
  intro r
  have step : ∀ (so : Nat → Nat) (t : Nat) (I : sI) (res : Option Nat), so 0 ≤ 39 → so 0 = y0 + t → rL I l hd → rC I c hd so → wf hd so → (∀ I', frC c I I' → F (oN (if oldB hd a so then some t else res)) I' J) → ((∀ I', frC c I I' → F (oN res) I' J) → ∀ I', rC I' c hd (plT hd (plR hd (plD hd m so))) → frC c I I' → ckI G (d + 5) mX2_letYears [.ref 4, .ref c, .int 1] I' J P K n (fun v6 I4 J5 => Ok G (d + 6) mX7_yearsByPlan 22 [some (.ref 10), some (.ref c), some (.ref 4), some (.int (nI m)), some (.int (nI a)), some (.int (nI y0)), some (.int (nI (so 0) + 1)), none] [] I4 J5 P K n (kI P K n F))) → Ok G (d + 6) mX7_yearsByPlan 22 [some (.ref 10), some (.ref c), some (.ref 4), some (.int (nI m)), some (.int (nI a)), some (.int (nI y0)), some (.int (nI (so 0))), none] [] I J P K n (kI P K n F) := by
    intro so t I res hy hyt L C w h hn
    have hl := ssc_le w h0 (f := ltr so) (fun k hk => wf_ltr w hk)
    have hag := ssc_ags w h0
    have hal : a * ssc hd (ltr so) 0 ≤ 39 * 1600 := Nat.mul_le_mul (by omega) hl
    have no : oldB hd a so = false → Ok G (d + 6) mX7_yearsByPlan 60 [some (.ref 10), some (.ref c), some (.ref 4), some (.int (nI m)), some (.int (nI a)), some (.int (nI y0)), some (.int (nI (so 0))), none] [] I J P K n (kI P K n F) := fun er => by
      refine bX7_yearsByPlan_60 hX _ _ _ _ _ (C_workByPlan hm hX S L C w h0 (hn (fun I' f => ?_)))
      have := h I' f
      rw [er] at this
      exact this
    refine bX7_yearsByPlan_22 _ _ _ _ _ S.1 (br_f (nI_nlt (a := 39) hy (by decide)) (C_haveOfScale (s := 0) S L C w h0 ?_))
    by_cases z : 0 < ssc hd (ltr so) 0
    · refine br_f (nI_nle z (by omega)) (C_agesOfScale (s := 0) S L C w h0 ?_)
      rw [i_mul, i_lt (by omega) (by omega)]
      refine ⟨fun q => no ?_, fun q => ?_⟩
      · unfold oldB; rw [decide_eq_false (show ¬ a * ssc hd (ltr so) 0 ≤ ssc hd (ags so) 0 by omega), Bool.and_false]
      · have er : oldB hd a so = true := by unfold oldB; rw [decide_eq_true z, decide_eq_true (show a * ssc hd (ltr so) 0 ≤ ssc hd (ags so) 0 by omega)]; rfl
        have hh := h I (frC_rf _ _)
        rw [er] at hh
        rw [i_sub (by omega), show so 0 - y0 = t by omega]
        exact hh
    · refine br_t (by rw [show ssc hd (ltr so) 0 = 0 by omega]; decide) (no ?_)
      unfold oldB; rw [decide_eq_false z, Bool.false_and]
  induction r with
  | zero =>
    intro so t I hm' hyt L C w h
    have wD : wf hd (plD hd m so) ∧ plD hd m so 0 = so 0 := plD_inv w m _ (Nat.le_refl _)
    have wR : wf hd (plR hd (plD hd m so)) ∧ plR hd (plD hd m so) 0 = plD hd m so 0 := plR_inv wD.1 _ (Nat.le_refl _)
    have wT := plT_inv wR.1 h0
    refine step so t I none (by omega) hyt L C w h (fun hh I' C' f => ?_)
    refine C_letYears (m := 1) (by decide) hX S (rL_fr S L f) C' wT.1 (fun I2 C2 f2 => ?_)
    rw [nI_1]
    exact bX7_yearsByPlan_22 _ _ _ _ _ S.1 (br_t (nI_lt (a := 39) (by omega) (by omega)) (hh I2 (frC_tr f f2)))
  | succ r ih =>
    intro so t I hm' hyt L C w h
    have wD : wf hd (plD hd m so) ∧ plD hd m so 0 = so 0 := plD_inv w m _ (Nat.le_refl _)
    have wR : wf hd (plR hd (plD hd m so)) ∧ plR hd (plD hd m so) 0 = plD hd m so 0 := plR_inv wD.1 _ (Nat.le_refl _)
    have wT := plT_inv wR.1 h0
    have wP := wf_plan w h0 (show so 0 < 39 by omega) m
    refine step so t I (whl (oldB hd a) (aPlan hd m) r (aPlan hd m so) (t + 1)) (by omega) hyt L C w h (fun hh I' C' f => ?_)
    refine C_letYears (m := 1) (by decide) hX S (rL_fr S L f) C' wT.1 (fun I2 C2 f2 => ?_)
    rw [nI_1]
    rw [if_pos (show 1 ≤ 39 - plT hd (plR hd (plD hd m so)) 0 by omega)] at C2
    have r' := ih (aPlan hd m so) (t + 1) I2 (by omega) (by omega) (rL_fr S L (frC_tr f f2)) C2 wP.1 (fun I3 f3 => hh I3 (frC_tr (frC_tr f f2) f3))
    rw [wP.2] at r'
    exact r'
theorem C_plan {m a : Nat} (hm : m ≤ 400) (hX : shX P K) (S : sC P K c l) (L : rL I l hd) (C : rC I c hd so) (w : wf hd so) (ha : a < 40) (h : ∀ I', frC c I I' → F (if hd 0 = 0 then -1 else oN (whl (oldB hd a) (aPlan hd m) (39 - so 0) so 0)) I' J) : ckI G (d + 6) mX7_yearsByPlan [.ref 10, .ref c, .ref 4, .int (nI m), .int (nI a)] I J P K n F := by
  have h5 := w.1
  have hy := w.2.2.2.2.2.2.1
  refine bX7_yearsByPlan_0 _ _ _ S.1 ⟨l, S.2.1, S.2.2.1, ?_⟩
  rw [L.1 0 (by decide), C.1]
  by_cases z : hd 0 = 0
  · rw [z]
    have := h I (frC_rf _ _)
    rw [if_pos z] at this
    exact br_t rfl this
  · refine br_f (nI_ne0 (by omega) (by omega)) ?_
    refine C_plan22 hm hX S (by omega) ha (39 - so 0) so 0 I (by omega) (by omega) L C w (fun I' f => ?_)
    have := h I' f
    rw [if_neg z] at this
    exact this
end TrialC
