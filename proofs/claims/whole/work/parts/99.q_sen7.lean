/-! what is read of a sentence can be asked -/
theorem pl_snoc (L : List itT) (x : itT) : pl (L ++ [x]) = pl L + (if x.1 ≤ 12 then 0 else 1) := by
  induction L with
  | nil => show _ + 0 = 0 + _; omega
  | cons y L ih =>
    show _ + pl (L ++ [x]) = _ + pl L + _
    rw [ih]
    omega
def okSg (sd : sgT → tokT → pE (sgT × tokT)) : Prop := ∀ s t p, sd s t = .ok p → (∀ i, i ∈ s.1 → okIt i) → (∀ i, i ∈ p.1.1 → okIt i) ∧ pl p.1.1 + s.2 ≤ pl s.1 + p.1.2
theorem okIt_j {w : Nat} (h : w = 10 ∨ w = 11 ∨ w = 12) : okIt (w, 0, 0) := by
  refine ⟨?_, ?_, ?_, fun z => ?_, fun z => ?_, ?_⟩ <;> dsimp only at * <;> omega
theorem sAd_ok {b : Bool} {w : Nat} {s : sgT} (hw : w = 10 ∨ w = 11) (h : ∀ i, i ∈ s.1 → okIt i) : (∀ i, i ∈ (sAd b w s).1 → okIt i) ∧ pl (sAd b w s).1 = pl s.1 := by
  unfold sAd
  split
  · refine ⟨fun i hi => ?_, ?_⟩
    · rcases List.mem_append.mp hi with q | q
      · exact h i q
      · rw [List.mem_singleton.mp q]
        exact okIt_j (by omega)
    · show pl (s.1 ++ [(w, 0, 0)]) = _
      rw [pl_snoc, if_pos (by dsimp only; omega)]
      rfl
  · exact ⟨h, rfl⟩
theorem okSg_lp {nx : tokT → tokT} {w : Nat} {sd : sgT → tokT → pE (sgT × tokT)} (hw : w = 10 ∨ w = 11) (ok : okSg sd) : ∀ (l : Nat) (b : Bool), okSg (pLp nx w sd l b) := by
  intro l
  induction l with
  | zero => intro b s t p h; cases h
  | succ l ih =>
    intro b s t p h hs
    rw [pLp_S] at h
    cases e : sd s t with
    | error er => rw [e] at h; cases h
    | ok r =>
      rw [e] at h
      dsimp only at h
      obtain ⟨g1, g2⟩ := ok s t r e hs
      obtain ⟨a1, a2⟩ := sAd_ok (b := b) hw g1
      split at h
      · obtain ⟨k1, k2⟩ := ih true _ _ p h a1
        rw [sAd_2, a2] at k2
        exact ⟨k1, by omega⟩
      · cases h
        refine ⟨a1, ?_⟩
        show pl (sAd b w r.1).1 + s.2 ≤ pl s.1 + (sAd b w r.1).2
        rw [a2, sAd_2]
        exact g2
theorem pPl_ok {nx : tokT → tokT} {hd : Nat → Nat} {nm : Nat → List Nat} {w : Nat} {t : tokT} {p : itT × tokT} (h5 : hd 0 ≤ 5) (hw : 13 ≤ w ∧ w ≤ 21) (h : pPl nx hd nm w t = .ok p) : okIt p.1 ∧ 13 ≤ p.1.1 := by
  unfold pPl at h
  split at h
  · cases h
    exact ⟨⟨by dsimp only; omega, by dsimp only; omega, by dsimp only; omega, fun z => by dsimp only at z; omega, fun z => by dsimp only at z; omega, by dsimp only; omega⟩, hw.1⟩
  · split at h
    · cases e : pSc nx hd nm t with
      | error er => rw [e] at h; cases h
      | ok r =>
        rw [e] at h
        have := (pSc_ok e).1
        cases h
        exact ⟨⟨(by dsimp only; omega), (by dsimp only; omega), (by dsimp only; omega), fun z => (by cases z), fun z => (by dsimp only at z; omega), (by dsimp only; omega)⟩, (by dsimp only; omega)⟩
    · split at h
      · cases e : rdN nx t 0 39 with
        | error er => rw [e] at h; cases h
        | ok r =>
          rw [e] at h
          have := (rdN_val e).2.2
          cases h
          exact ⟨⟨(by dsimp only; omega), (by dsimp only; omega), (by dsimp only; omega), fun _ => (by dsimp only; omega), fun z => (by dsimp only at z; omega), (by dsimp only; omega)⟩, (by dsimp only; omega)⟩
      · split at h
        · rename_i hs
          cases e : rdN nx (nx t) 0 999 with
          | error er => rw [e] at h; cases h
          | ok r =>
            rw [e] at h
            have hv := (rdN_val e).2.2
            have hsg : t.2.2.2.1 = 60 ∨ t.2.2.2.1 = 61 ∨ t.2.2.2.1 = 62 := by
              simp only [isS, Bool.or_eq_true, Bool.and_eq_true, decide_eq_true_eq] at hs
              omega
            cases h
            exact ⟨⟨by dsimp only; omega, by dsimp only; omega, by dsimp only; omega, fun z => by dsimp only at z; omega, fun _ => hsg, by dsimp only; omega⟩, hw.1⟩
        · cases h
theorem okSg_d (nx : tokT → tokT) {hd : Nat → Nat} (nm : Nat → List Nat) (h5 : hd 0 ≤ 5) : ∀ dep, okSg (pSd nx hd nm dep) := by
  intro dep
  induction dep with
  | zero =>
    intro s t p h hs
    simp only [pSd] at h
    split at h <;> cases h
  | succ dep ih =>
    intro s t p h hs
    simp only [pSd] at h
    split at h
    · rename_i est
      split at h
      · cases h
      · split at h
        · cases e : pOrW nx (pSd nx hd nm dep) (s.1, s.2 + 1) (nx t) with
          | error er => rw [e] at h; cases h
          | ok r =>
            rw [e] at h
            dsimp only at h
            obtain ⟨g1, g2⟩ := okSg_lp (Or.inl rfl) (okSg_lp (nx := nx) (Or.inr rfl) ih 21 false) 21 false (s.1, s.2 + 1) (nx t) r e hs
            dsimp only at g2
            split at h
            · cases h
              exact ⟨g1, by dsimp only; omega⟩
            · cases h
        · rename_i eb
          obtain ⟨w, ew, hw⟩ := (stW_1 est).2 (Bool.eq_false_iff.mpr eb)
          have hw2 := (wI_2 ew).2
          rw [ew] at h
          dsimp only at h
          split at h
          · cases e : pSd nx hd nm dep (s.1, s.2 + 1) (nx t) with
            | error er => rw [e] at h; cases h
            | ok r =>
              rw [e] at h
              obtain ⟨g1, g2⟩ := ih (s.1, s.2 + 1) (nx t) r e hs
              dsimp only at g2
              cases h
              refine ⟨fun i hi => ?_, ?_⟩
              · rcases List.mem_append.mp hi with q | q
                · exact g1 i q
                · rw [List.mem_singleton.mp q]
                  exact okIt_j (by omega)
              · show pl (r.1.1 ++ [(12, 0, 0)]) + s.2 ≤ pl s.1 + r.1.2
                rw [pl_snoc, if_pos (by decide)]
                omega
          · rename_i n12
            cases e : pPl nx hd nm w (nx t) with
            | error er => rw [e] at h; cases h
            | ok r =>
              rw [e] at h
              obtain ⟨g1, g2⟩ := pPl_ok h5 (by omega) e
              cases h
              refine ⟨fun i hi => ?_, ?_⟩
              · rcases List.mem_append.mp hi with q | q
                · exact hs i q
                · rw [List.mem_singleton.mp q]; exact g1
              · show pl (s.1 ++ [r.1]) + s.2 ≤ pl s.1 + (s.2 + 1)
                rw [pl_snoc, if_neg (by omega)]
                omega
    · cases h
theorem getD_mem {L : List itT} {i : Nat} (h : i < L.length) : L.getD i it0 ∈ L := by
  rw [List.getD_eq_getElem?_getD, List.getElem?_eq_getElem h]
  exact List.getElem_mem h
/-- a sentence that was read -/
theorem pSen_ok {hd : Nat → Nat} {nm : Nat → List Nat} {tp : Nat → Nat} {tl : Nat} {p : sgT} (h5 : hd 0 ≤ 5) (h : pSen hd nm tp tl = .ok p) : p.1.length ≤ 40 ∧ pl p.1 ≤ 20 ∧ ∀ i, i < p.1.length → okIt (p.1.getD i it0) := by
  unfold pSen at h
  cases e : pOrW (nxT tp tl 200) (pSd (nxT tp tl 200) hd nm 8) ([], 0) (tok tp tl 200 0) with
  | error er => rw [e] at h; cases h
  | ok r =>
    rw [e] at h
    dsimp only at h
    obtain ⟨g1, g2⟩ := okSg_lp (Or.inl rfl) (okSg_lp (nx := nxT tp tl 200) (Or.inr rfl) (okSg_d (nxT tp tl 200) nm h5 8) 21 false) 21 false ([], 0) _ r e (fun i hi => absurd hi (by simp))
    obtain ⟨seg, o1, o2, o3, o4⟩ := okLp0 (nx := nxT tp tl 200) (w := 10) (okLp0 (nx := nxT tp tl 200) (w := 11) (okSd_d (nxT tp tl 200) hd nm 8) 21) 21 ([], 0) _ r (by decide) e
    dsimp only at g2 o1 o2 o3
    rw [List.nil_append] at o1
    have z : pl ([] : List itT) = 0 := rfl
    split at h
    · cases h
      exact ⟨by rw [o1]; omega, by omega, fun i hi => g1 _ (getD_mem hi)⟩
    · cases h
