/-! what is read of a house stays well; tokens go on -/
theorem fst_congr {h h' : Nat → Nat} {s : Nat} (e : ∀ k, k < s → h' (5 + k) = h (5 + k)) : fst' h' s = fst' h s := sm_congr e
theorem wf_st {h : Nat → Nat} (c0 : h 0 ≤ 5) (c1 : ∀ s, s < h 0 → 1 ≤ h (5 + s) ∧ h (5 + s) ≤ 4 ∧ 10 ≤ h (10 + s) ∧ h (10 + s) ≤ 400) (c2 : h 1 = fst' h (h 0)) (c3 : h 2 ≤ 9) (c4 : 1 ≤ h 3 ∧ h 3 ≤ 400) (c5 : h 4 ≤ 29) (c6 : ∀ k, k < h 1 → sm (fun v => h (15 + 40 * k + v)) 40 ≤ hol h k) (c7 : ∀ k v, k < h 1 → h 4 < v → v < 40 → h (15 + 40 * k + v) = 0) (c8 : ∀ s, h 0 ≤ s → s < 5 → h (5 + s) ≤ 4) : wf h (stS h) := by
  refine ⟨c0, c1, c2, c3, c4, c5, ?_, fun k hk => ?_, fun k v hk h1 h2 => ?_, fun k hk => ?_, c8⟩
  · show h 4 ≤ 39; omega
  · have : ltr (stS h) k = sm (fun v => h (15 + 40 * k + v)) 40 := sm_congr (fun v _ => stS_wn h k v)
    rw [this]; exact c6 k hk
  · rw [stS_wn]; exact c7 k v hk h1 h2
  · have e : stS h (43 + k) = 0 := by unfold stS; rw [if_neg (by omega), if_pos (by omega)]
    rw [e]; exact Nat.zero_le _
theorem wf_un {h : Nat → Nat} (w : wf h (stS h)) {k : Nat} (hk : k < h 1) : sm (fun v => h (15 + 40 * k + v)) 40 ≤ hol h k := by
  have : ltr (stS h) k = sm (fun v => h (15 + 40 * k + v)) 40 := sm_congr (fun v _ => stS_wn h k v)
  rw [← this]; exact w.2.2.2.2.2.2.2.1 k hk
theorem wf_u7 {h : Nat → Nat} (w : wf h (stS h)) {k v : Nat} (hk : k < h 1) (h1 : h 4 < v) (h2 : v < 40) : h (15 + 40 * k + v) = 0 := by
  rw [← stS_wn h k v]; exact w.2.2.2.2.2.2.2.2.1 k v hk h1 h2
theorem sof_congr {h h' : Nat → Nat} (e : ∀ k, k < 5 → h' (5 + k) = h (5 + k)) (k : Nat) : sof h' k = sof h k := by
  unfold sof
  rw [fst_congr (s := 1) (fun k hk => e k (by omega)), fst_congr (s := 2) (fun k hk => e k (by omega)), fst_congr (s := 3) (fun k hk => e k (by omega)), fst_congr (s := 4) (fun k hk => e k (by omega))]
/-- only 2, 3 or 4 has changed -/
theorem wf_up234 {h : Nat → Nat} (w : wf h (stS h)) {j x : Nat} (hj : 2 ≤ j ∧ j ≤ 4) (h2 : j = 2 → x ≤ 9) (h3 : j = 3 → 1 ≤ x ∧ x ≤ 400) (h4 : j = 4 → x ≤ 29 ∧ ∀ i, i < 800 → h (15 + i) = 0) : wf (up h j x) (stS (up h j x)) := by
  have o : ∀ i, i < 2 ∨ 4 < i → up h j x i = h i := fun i hi => up_n _ _ (by omega)
  have hc := wf_casks w
  have hho : ∀ k, k < h 1 → hol (up h j x) k = hol h k := fun k hk => by
    unfold hol
    rw [sof_congr (h := h) (fun k hk => o _ (by omega))]
    exact o _ (by omega)
  refine wf_st ?_ (fun s hs => ?_) ?_ ?_ ?_ ?_ (fun k hk => ?_) (fun k v hk h1 h2 => ?_) (fun s hs1 hs2 => ?_)
  · rw [o 0 (by omega)]; exact w.1
  · rw [o 0 (by omega)] at hs
    rw [o _ (by omega), o _ (by omega)]; exact w.2.1 s hs
  · rw [o 1 (by omega), o 0 (by omega), fst_congr (h := h) (fun k _ => o _ (by omega))]; exact w.2.2.1
  · by_cases e : j = 2
    · subst e; rw [up_s]; exact h2 rfl
    · rw [up_n _ _ (Ne.symm e)]; exact w.2.2.2.1
  · by_cases e : j = 3
    · subst e; rw [up_s]; exact h3 rfl
    · rw [up_n _ _ (Ne.symm e)]; exact w.2.2.2.2.1
  · by_cases e : j = 4
    · subst e; rw [up_s]; exact (h4 rfl).1
    · rw [up_n _ _ (Ne.symm e)]; exact w.2.2.2.2.2.1
  · rw [o 1 (by omega)] at hk
    rw [hho k hk, sm_congr (g := fun v => h (15 + 40 * k + v)) (fun v _ => o _ (by omega))]
    exact wf_un w hk
  · rw [o 1 (by omega)] at hk
    rw [o _ (by omega)]
    by_cases e : j = 4
    · rw [Nat.add_assoc]; exact (h4 e).2 _ (by omega)
    · rw [up_n _ _ (Ne.symm e)] at h1; exact wf_u7 w hk h1 h2
  · rw [o 0 (by omega)] at hs1
    rw [o _ (by omega)]; exact wf_sz w (by omega)
theorem rdN_val {nx : tokT → tokT} {t : tokT} {a b : Nat} {p : Nat × tokT} (h : rdN nx t a b = .ok p) : p = (t.2.2.2.1, nx t) ∧ a ≤ p.1 ∧ p.1 ≤ b := by
  by_cases e : eN t a b = 0
  · rw [rdN_ok e] at h
    cases h
    have := eN_range e
    exact ⟨rfl, this.2.1, this.2.2⟩
  · rw [rdN_bad e] at h; cases h
theorem wH_year {nx : tokT → tokT} {H : hS} {t : tokT} {p : hS × tokT} (w : wH H) (h : pYear nx H t = .ok p) : wH p.1 := by
  obtain ⟨h1, nm, y, a, m, wn⟩ := H
  unfold pYear at h
  split at h
  · cases h
  · rename_i c
    split at h
    · cases h
    · rename_i q hq
      cases h
      have r := rdN_val hq
      have ew : wn = false := by cases wn <;> simp_all
      subst ew
      obtain ⟨w1, w2, w3⟩ := w
      refine ⟨wf_up234 w1 (by decide) (fun e => by cases e) (fun e => by cases e) (fun _ => ⟨r.2.2, w3 rfl⟩), fun k hk hk2 v hv => ?_, fun _ j hj => ?_⟩
      · show up h1 4 q.1 _ = 0
        rw [up_n _ _ (by omega)]
        exact w2 k (by show h1 1 ≤ k; rw [← up_n h1 q.1 (show 1 ≠ 4 by decide)]; exact hk) hk2 v hv
      · show up h1 4 q.1 _ = 0
        rw [up_n _ _ (by omega)]
        exact w3 rfl j hj
theorem wH_angels {nx : tokT → tokT} {H : hS} {t : tokT} {p : hS × tokT} (w : wH H) (h : pAngels nx H t = .ok p) : wH p.1 := by
  obtain ⟨h1, nm, y, a, m, wn⟩ := H
  unfold pAngels at h
  split at h
  · cases h
  · split at h
    · cases h
    · rename_i q hq
      cases h
      have r := rdN_val hq
      obtain ⟨w1, w2, w3⟩ := w
      refine ⟨wf_up234 w1 (by decide) (fun _ => r.2.2) (fun e => by cases e) (fun e => by cases e), fun k hk hk2 v hv => ?_, fun e j hj => ?_⟩
      · show up h1 2 q.1 _ = 0
        rw [up_n _ _ (by omega)]
        exact w2 k (by show h1 1 ≤ k; rw [← up_n h1 q.1 (show 1 ≠ 2 by decide)]; exact hk) hk2 v hv
      · show up h1 2 q.1 _ = 0
        rw [up_n _ _ (by omega)]
        exact w3 e j hj
theorem wH_most {nx : tokT → tokT} {H : hS} {t : tokT} {p : hS × tokT} (w : wH H) (h : pMost nx H t = .ok p) : wH p.1 := by
  obtain ⟨h1, nm, y, a, m, wn⟩ := H
  unfold pMost at h
  split at h
  · cases h
  · split at h
    · cases h
    · rename_i q hq
      cases h
      have r := rdN_val hq
      obtain ⟨w1, w2, w3⟩ := w
      refine ⟨wf_up234 w1 (by decide) (fun e => by cases e) (fun _ => ⟨r.2.1, r.2.2⟩) (fun e => by cases e), fun k hk hk2 v hv => ?_, fun e j hj => ?_⟩
      · show up h1 3 q.1 _ = 0
        rw [up_n _ _ (by omega)]
        exact w2 k (by show h1 1 ≤ k; rw [← up_n h1 q.1 (show 1 ≠ 3 by decide)]; exact hk) hk2 v hv
      · show up h1 3 q.1 _ = 0
        rw [up_n _ _ (by omega)]
        exact w3 e j hj
theorem wf_scH {h : Nat → Nat} {a b : Nat} (w : wf h (stS h)) (h0 : h 0 ≠ 5) (ha : 1 ≤ a ∧ a ≤ 4) (hb : 10 ≤ b ∧ b ≤ 400) (hz : ∀ k, h 1 ≤ k → k < 20 → ∀ v, v < 40 → h (15 + 40 * k + v) = 0) : wf (scH h a b) (stS (scH h a b)) ∧ (∀ k, k < h 1 → sof (scH h a b) k = sof h k) := by
  have w0 := w.1
  have e0 : scH h a b 0 = h 0 + 1 := up_s _ _ _
  have e1 : scH h a b 1 = h 1 + a := by unfold scH; rw [up_n _ _ (by omega), up_s]
  have e5 : scH h a b (5 + h 0) = a := by unfold scH; rw [up_n _ _ (by omega), up_n _ _ (by omega), up_n _ _ (by omega), up_s]
  have e10 : scH h a b (10 + h 0) = b := by unfold scH; rw [up_n _ _ (by omega), up_n _ _ (by omega), up_s]
  have eo : ∀ i, i ≠ 0 → i ≠ 1 → i ≠ 5 + h 0 → i ≠ 10 + h 0 → scH h a b i = h i := fun i a1 a2 a3 a4 => by unfold scH; rw [up_n _ _ a1, up_n _ _ a2, up_n _ _ a4, up_n _ _ a3]
  have ef : ∀ s, s ≤ h 0 → fst' (scH h a b) s = fst' h s := fun s hs => fst_congr (fun k hk => eo _ (by omega) (by omega) (by omega) (by omega))
  have ef1 : fst' (scH h a b) (h 0 + 1) = h 1 + a := by rw [fst_succ, ef _ (Nat.le_refl _), e5, w.2.2.1]
  have hc1 : h 1 + a ≤ 20 := by
    have : fst' (scH h a b) (h 0 + 1) ≤ (h 0 + 1) * 4 := sm_bound (fun k hk => by
      by_cases c : k = h 0
      · subst c; show scH h a b (5 + h 0) ≤ 4; rw [e5]; exact ha.2
      · show scH h a b (5 + k) ≤ 4
        rw [eo _ (by omega) (by omega) (by omega) (by omega)]; exact wf_sz w (by omega))
    rw [ef1] at this; omega
  have so1 : ∀ k, k < h 1 → sof (scH h a b) k = sof h k := fun k hk => by
    have s := sof_at w hk
    exact sof_is (by omega) (by rw [ef _ (by omega)]; exact s.2.1) (by rw [ef _ (by omega)]; exact s.2.2)
  have so2 : ∀ k, h 1 ≤ k → k < h 1 + a → sof (scH h a b) k = h 0 := fun k hk1 hk2 => sof_is (by omega) (by rw [ef _ (Nat.le_refl _), ← w.2.2.1]; exact hk1) (by rw [ef1]; exact hk2)
  refine ⟨wf_st ?_ (fun s hs => ?_) ?_ ?_ ?_ ?_ (fun k hk => ?_) (fun k v hk h1 h2 => ?_) (fun s hs1 hs2 => ?_), so1⟩
  · rw [e0]; omega
  · rw [e0] at hs
    by_cases c : s = h 0
    · subst c; rw [e5, e10]; exact ⟨ha.1, ha.2, hb.1, hb.2⟩
    · rw [eo _ (by omega) (by omega) (by omega) (by omega), eo _ (by omega) (by omega) (by omega) (by omega)]; exact w.2.1 s (by omega)
  · rw [e0, e1, ef1]
  · rw [eo _ (by omega) (by omega) (by omega) (by omega)]; exact w.2.2.2.1
  · rw [eo _ (by omega) (by omega) (by omega) (by omega)]; exact w.2.2.2.2.1
  · rw [eo _ (by omega) (by omega) (by omega) (by omega)]; exact w.2.2.2.2.2.1
  · rw [e1] at hk
    rw [sm_congr (g := fun v => h (15 + 40 * k + v)) (fun v _ => eo _ (by omega) (by omega) (by omega) (by omega))]
    by_cases c : k < h 1
    · have : hol (scH h a b) k = hol h k := by
        unfold hol
        rw [so1 k c]
        have := (sof_at w c).1
        exact eo _ (by omega) (by omega) (by omega) (by omega)
      rw [this]; exact wf_un w c
    · rw [sm_congr (g := fun _ => 0) (fun v hv => hz k (by omega) (by omega) v hv), sm_zero]; exact Nat.zero_le _
  · rw [e1] at hk
    rw [eo _ (by omega) (by omega) (by omega) (by omega)]
    rw [eo _ (by omega) (by omega) (by omega) (by omega)] at h1
    by_cases c : k < h 1
    · exact wf_u7 w c h1 h2
    · exact hz k (by omega) (by omega) v h2
  · rw [e0] at hs1
    rw [eo _ (by omega) (by omega) (by omega) (by omega)]; exact wf_sz w hs2
theorem wH_scale {nx : tokT → tokT} {H : hS} {t : tokT} {p : hS × tokT} (w : wH H) (h : pScale nx H t = .ok p) : wH p.1 := by
  obtain ⟨h1, nm, y, a, m, wn⟩ := H
  unfold pScale at h
  split at h
  · cases h
  · rename_i c0
    split at h
    · cases h
    · split at h
      · cases h
      · split at h
        · cases h
        · rename_i q hq
          split at h
          · cases h
          · rename_i r hr
            cases h
            have r1 := rdN_val hq
            have r2 := rdN_val hr
            obtain ⟨w1, w2, w3⟩ := w
            have w0 : h1 0 ≤ 5 := w1.1
            change h1 0 ≠ 5 at c0
            have eo : ∀ i, 15 ≤ i → scH h1 q.1 r.1 i = h1 i := fun i hi => by unfold scH; rw [up_n _ _ (by omega), up_n _ _ (by omega), up_n _ _ (by omega), up_n _ _ (by omega)]
            have e1 : scH h1 q.1 r.1 1 = h1 1 + q.1 := by unfold scH; rw [up_n _ _ (by omega), up_s]
            refine ⟨(wf_scH w1 c0 r1.2 r2.2 w2).1, fun k hk hk2 v hv => ?_, fun e j hj => ?_⟩
            · show scH h1 q.1 r.1 _ = 0
              rw [eo _ (by omega)]
              have hk' : h1 1 + q.1 ≤ k := by rw [← e1]; exact hk
              exact w2 k (by show h1 1 ≤ k; omega) hk2 v hv
            · show scH h1 q.1 r.1 _ = 0
              rw [eo _ (by omega)]
              exact w3 e j hj
theorem sm_upw {h : Nat → Nat} {q v x : Nat} (hv : v < 40) : sm (fun i => up h (q + v) x (q + i)) 40 + h (q + v) = sm (fun i => h (q + i)) 40 + x := by
  have := sm_upd (f := fun i => h (q + i)) (n := 40) (k := v) (v := x) hv
  rw [← this]
  refine congrArg (· + h (q + v)) (sm_congr (fun i _ => ?_))
  by_cases c : i = v
  · subst c; rw [up_s, if_pos rfl]
  · rw [up_n _ _ (by omega), if_neg c]
theorem wf_wnH {h : Nat → Nat} {k v x : Nat} (w : wf h (stS h)) (hk : k < h 1) (hv : v ≤ h 4) (hx : x ≤ lck h (stS h) k) : wf (wnH h k v x) (stS (wnH h k v x)) := by
  have hy := w.2.2.2.2.2.1
  have hc := wf_casks w
  have eo : ∀ i, i < 15 → wnH h k v x i = h i := fun i hi => up_n _ _ (by omega)
  have hho : ∀ j, j < h 1 → hol (wnH h k v x) j = hol h j := fun j hj => by
    have := (sof_at w hj).1
    have := w.1
    unfold hol
    rw [sof_congr (h := h) (fun k hk => eo _ (by omega))]
    exact eo _ (by omega)
  refine wf_st ?_ (fun s hs => ?_) ?_ ?_ ?_ ?_ (fun j hj => ?_) (fun j u hj h1 h2 => ?_) (fun s hs1 hs2 => ?_)
  · rw [eo 0 (by omega)]; exact w.1
  · rw [eo 0 (by omega)] at hs
    have := w.1
    rw [eo _ (by omega), eo _ (by omega)]; exact w.2.1 s hs
  · have := w.1
    rw [eo 1 (by omega), eo 0 (by omega), fst_congr (h := h) (fun k _ => eo _ (by omega))]; exact w.2.2.1
  · rw [eo _ (by omega)]; exact w.2.2.2.1
  · rw [eo _ (by omega)]; exact w.2.2.2.2.1
  · rw [eo _ (by omega)]; exact w.2.2.2.2.2.1
  · rw [eo 1 (by omega)] at hj
    rw [hho j hj]
    by_cases c : j = k
    · subst c
      have := sm_upw (h := h) (q := 15 + 40 * j) (v := v) (x := h (15 + 40 * j + v) + x) (by omega)
      have q1 := wf_un w hj
      have q2 : ltr (stS h) j = sm (fun v => h (15 + 40 * j + v)) 40 := sm_congr (fun v _ => stS_wn h j v)
      unfold lck at hx
      rw [q2] at hx
      show sm (fun i => up h (15 + 40 * j + v) (h (15 + 40 * j + v) + x) (15 + 40 * j + i)) 40 ≤ hol h j
      omega
    · have e : sm (fun u => wnH h k v x (15 + 40 * j + u)) 40 = sm (fun u => h (15 + 40 * j + u)) 40 := sm_congr (fun u hu => up_n _ _ (by omega))
      rw [e]
      exact wf_un w hj
  · rw [eo 1 (by omega)] at hj
    rw [eo 4 (by omega)] at h1
    have e : wnH h k v x (15 + 40 * j + u) = h (15 + 40 * j + u) := up_n _ _ (by omega)
    rw [e]; exact wf_u7 w hj h1 h2
  · rw [eo 0 (by omega)] at hs1
    rw [eo _ (by omega)]; exact wf_sz w hs2
theorem wH_wine {nx : tokT → tokT} {H : hS} {t : tokT} {p : hS × tokT} (w : wH H) (h : pWine nx H t = .ok p) : wH p.1 := by
  obtain ⟨h1, nm, y, a, m, wn⟩ := H
  obtain ⟨w1, w2, w3⟩ := w
  change wf h1 (stS h1) at w1
  unfold pWine at h
  split at h
  · cases h
  · split at h
    · cases h
    · rename_i s hs
      have hs := (fndN_lt hs).2.1
      simp only at hs
      split at h
      · cases h
      · rename_i q hq
        split at h
        · cases h
        · rename_i r hr
          split at h
          · cases h
          · rename_i u hu
            cases h
            have r1 := rdN_val hq
            have r2 := rdN_val hr
            have r3 := rdN_val hu
            have hsz := w1.2.1 s (by omega)
            have hk : fst' h1 s + q.1 < h1 1 := wf_in w1 (by omega) (by have := r1.2.2; simp only at this; omega)
            have hc := wf_casks w1
            refine ⟨wf_wnH w1 hk r2.2.2 r3.2.2, fun k hk1 hk2 v hv => ?_, fun e => by cases e⟩
            have e1 : wnH h1 (fst' h1 s + q.1) r.1 u.1 1 = h1 1 := up_n _ _ (by omega)
            have hk' : h1 1 ≤ k := by rw [← e1]; exact hk1
            have hy := w1.2.2.2.2.2.1
            have hr4 : r.1 ≤ h1 4 := r2.2.2
            have e2 : wnH h1 (fst' h1 s + q.1) r.1 u.1 (15 + 40 * k + v) = h1 (15 + 40 * k + v) := up_n _ _ (by omega)
            show wnH h1 (fst' h1 s + q.1) r.1 u.1 (15 + 40 * k + v) = 0
            rw [e2]; exact w2 k hk' hk2 v hv
theorem wH_line {nx : tokT → tokT} {H : hS} {t : tokT} {p : hS × tokT} (w : wH H) (h : pLine nx H t = .ok p) : wH p.1 := by
  unfold pLine at h
  split at h
  · exact wH_scale w h
  · split at h
    · exact wH_wine w h
    · split at h
      · exact wH_year w h
      · split at h
        · exact wH_angels w h
        · split at h
          · exact wH_most w h
          · cases h
