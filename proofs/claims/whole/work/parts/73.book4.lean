/-! the reference: a book lived -/
def ckO (hd : Nat → Nat) (s m : Nat) : Option Nat := if m < hd (5 + s) then some (fst' hd s + m) else none
def lvA (hd so : Nat → Nat) (t x y z : Nat) : Nat × (Nat → Nat) := if aWhy hd so t x y z = 0 then (0, aLive hd so t x y z) else (10 * t + aWhy hd so t x y z, so)
def lvL (hd so : Nat → Nat) (b : bL) : Nat × (Nat → Nat) :=
  if b.1 = 4 then (if so 0 + b.2.2.2.2.2 ≤ 39 then (0, yrs hd b.2.2.2.2.2 so) else (41, so))
  else if b.1 = 1 then lvA hd so 1 b.2.1 0 0
  else if b.1 = 2 then lvA hd so 2 0 0 0
  else match ckO hd b.2.1 b.2.2.1 with
    | none => (10 * b.1 + 9, so)
    | some k => if b.1 = 3 then (match ckO hd b.2.2.2.1 b.2.2.2.2.1 with
      | none => (39, so)
      | some j => lvA hd so 3 k j b.2.2.2.2.2) else lvA hd so 0 k 0 b.2.2.2.2.2
def lvB (hd : Nat → Nat) (ls : Nat → bL) : Nat → Nat → (Nat → Nat) → Nat × Nat × (Nat → Nat)
  | 0, k, so => (0, k, so)
  | f + 1, k, so => if (lvL hd so (ls k)).1 = 0 then lvB hd ls f (k + 1) (lvL hd so (ls k)).2 else ((lvL hd so (ls k)).1, k, so)
theorem any_nI (x : Int32) : ∃ k, x = nI k := ⟨x.toUInt32.toNat, by rw [← u_nI]; simp⟩
theorem ckO_lt {hd so : Nat → Nat} (w : wf hd so) {s m k : Nat} (hs : s < hd 0) (h : ckO hd s m = some k) : k < hd 1 := by
  unfold ckO at h
  split at h
  · cases h; exact wf_in w hs (by assumption)
  · cases h
theorem wf_lvA {hd so : Nat → Nat} (w : wf hd so) {t x y z : Nat} (ok : aOk hd t x y z) : wf hd (lvA hd so t x y z).2 := by
  unfold lvA
  split
  · exact wf_live w ok (by assumption)
  · exact w
theorem wf_lvL {hd so : Nat → Nat} (w : wf hd so) {b : bL} (ok : okB hd b) : wf hd (lvL hd so b).2 := by
  obtain ⟨t, s, m, s2, m2, z⟩ := b
  obtain ⟨o1, o2, o3, o4, o5, o6, o7⟩ := ok
  simp only at o1 o2 o3 o4 o5 o6 o7
  unfold lvL
  simp only
  split
  · split
    · exact (yrs_inv w (by assumption) _ (Nat.le_refl _)).1
    · exact w
  · split
    · exact wf_lvA w (Or.inr (Or.inl ⟨rfl, o2 (by omega)⟩))
    · split
      · exact wf_lvA w (Or.inr (Or.inr (Or.inl rfl)))
      · have hs : s < hd 0 := o2 (by omega)
        split
        · exact w
        · rename_i k hk
          have hk1 := ckO_lt w hs hk
          split
          · split
            · exact w
            · rename_i j hj
              have hj1 := ckO_lt w (o4 (by omega)) hj
              exact wf_lvA w (Or.inr (Or.inr (Or.inr ⟨rfl, hk1, hj1, o6⟩)))
          · exact wf_lvA w (Or.inl ⟨rfl, hk1, o6⟩)
theorem lvL_le {hd so : Nat → Nat} {b : bL} (hb : b.1 ≤ 4) : (lvL hd so b).1 ≤ 50 := by
  have hA : ∀ t x y z, t ≤ 3 → (lvA hd so t x y z).1 ≤ 50 := fun t x y z ht => by
    unfold lvA
    have := aWhy_le hd so t x y z
    split
    · exact Nat.zero_le _
    · show 10 * t + aWhy hd so t x y z ≤ 50; omega
  unfold lvL
  split
  · split
    · exact Nat.zero_le _
    · show 41 ≤ 50; decide
  · split
    · exact hA _ _ _ _ (by decide)
    · split
      · exact hA _ _ _ _ (by decide)
      · split
        · show 10 * b.1 + 9 ≤ 50; omega
        · split
          · split
            · show 39 ≤ 50; decide
            · exact hA _ _ _ _ (by decide)
          · exact hA _ _ _ _ (by decide)
theorem lvB_inv {hd : Nat → Nat} {ls : Nat → bL} (ok : ∀ i, okB hd (ls i)) : ∀ (f k : Nat) (so : Nat → Nat), wf hd so → wf hd (lvB hd ls f k so).2.2 ∧ k ≤ (lvB hd ls f k so).2.1 ∧ (lvB hd ls f k so).2.1 ≤ k + f ∧ (lvB hd ls f k so).1 ≤ 50 := by
  intro f
  induction f with
  | zero => intro k so w; exact ⟨w, Nat.le_refl _, Nat.le_refl _, Nat.zero_le 50⟩
  | succ f ih =>
    intro k so w
    simp only [lvB]
    split
    · have := ih (k + 1) _ (wf_lvL w (ok k))
      exact ⟨this.1, by omega, by omega, this.2.2.2⟩
    · exact ⟨w, Nat.le_refl _, by show k ≤ k + (f + 1); omega, lvL_le (ok k).1⟩
section ModBook4
variable {G : gG} {d : Nat} {I I0 : sI} {J J0 : sJ} {P : sP} {K : sK} {n : Nat} {F : Int32 → sI → sJ → Prop} {FV : sI → sJ → Prop} {hd so : Nat → Nat} {nm : Nat → List Nat}
theorem M_caskAt {c s m : Nat} (hM : shM P K) (R : rM I hd so) (w : wf hd so) (hc : c + 1 < 240) (hs : s < hd 0) (hm : m ≤ 3) (e1 : I 113 c = nI s) (e2 : I 113 (c + 1) = nI m) (h : F (oN (ckO hd s m)) I J) : ckI G (d + 1) mX12_caskAt [.ref 91, .int (nI c)] I J P K n F := by
  have h0 := w.1
  have hsz := wf_sz w (s := s) (by omega)
  refine bX12_caskAt_0 hM _ ?_
  rw [nI_1, nI_ck (show c < 2147483648 by omega), nI_ck (show c + 1 < 2147483648 by omega), e1]
  have e5 : (5 + nI s : Int32) = nI (5 + s) := by show nI 5 + nI _ = _; rw [i_add]
  rw [e5, nI_ck (show 5 + s < 2147483648 by omega), R.1 (5 + s) (by omega), e2]
  refine ⟨nI_inN (by omega) (by decide), nI_inN (by omega) (by decide), nI_inN (by omega) (by decide), ?_⟩
  unfold ckO at h
  refine ⟨fun q => ?_, fun q => ⟨nI_inN (by omega) (by decide), ?_⟩⟩
  · rw [i_le (by omega) (by omega)] at q
    rw [if_neg (by omega)] at h
    exact h
  · rw [i_le (by omega) (by omega)] at q
    rw [if_pos (by omega)] at h
    refine M_firstNow hM R (by omega) ⟨nI_inN (by omega) (by decide), ?_⟩
    rw [e2, i_add]
    exact h
theorem M_whyLive {t x y z c : Nat} (hM : shM P K) (R : rM I hd so) (w : wf hd so) (ok : aOk hd t x y z) (hc : c < 240) (ez : I 113 c = nI z) (h : ∀ I', rM I' hd (lvA hd so t x y z).2 → fr93 I I' → F (nI (lvA hd so t x y z).1) I' J) : ckI G (d + 6) mX12_why [.ref 91, .int (nI t), .int (nI x), .int (nI y), .int (nI z)] I J P K n (fun v I1 J1 => (v = 0 → vp_in (nI c) 240 ∧ ckV G (d + 6) mX12_live [.ref 91, .int (nI t), .int (nI x), .int (nI y), .int (I1 113 c)] I1 J1 P K n (fun I2 J2 => F 0 I2 J2)) ∧ (¬ v = 0 → F (10 * nI t + v) I1 J1)) := by
  refine M_why hM R w ok ?_
  have hle := aWhy_le hd so t x y z
  unfold lvA at h
  by_cases e : aWhy hd so t x y z = 0
  · rw [if_pos e] at h
    rw [e]
    refine br_t rfl ⟨nI_inN hc (by decide), ?_⟩
    rw [ez]
    exact M_live hM R w ok e h
  · rw [if_neg e] at h
    refine br_f (nI_ne0 (by omega) (by omega)) ?_
    have e2 : (10 * nI t + nI (aWhy hd so t x y z) : Int32) = nI (10 * t + aWhy hd so t x y z) := by
      show nI 10 * nI t + _ = _
      rw [i_mul, i_add]
    rw [e2]
    exact h I R (fr93_rf _)
theorem M_goBy {l : Nat} {b : bL} (hM : shM P K) (R : rM I hd so) (w : wf hd so) (L : rLn I l b) (ok : okB hd b) (hl : l < 40) (h : ∀ I', rM I' hd (lvL hd so b).2 → fr93 I I' → F (nI (lvL hd so b).1) I' J) : ckI G (d + 7) mX12_goBy [.ref 91, .int (nI (6 * l))] I J P K n F := by
  obtain ⟨t, s, m, s2, m2, z⟩ := b
  obtain ⟨o1, o2, o3, o4, o5, o6, o7⟩ := ok
  obtain ⟨L1, L2, L3, L4, L5⟩ := L
  simp only at o1 o2 o3 o4 o5 o6 o7 L1 L2 L3 L4 L5
  have hy := w.2.2.2.2.2.2.1
  refine bX12_goBy_0 hM _ ?_
  simp only [nI_1, nI_p3, nI_p5, nI_ck (show 6 * l < 2147483648 by omega), nI_ck (show 6 * l + 1 < 2147483648 by omega), nI_ck (show 6 * l + 5 < 2147483648 by omega), L1]
  have v0 : vp_in (nI (6 * l)) 240 := nI_inN (by omega) (by decide)
  have v1 : vp_in (nI (6 * l + 1)) 240 := nI_inN (by omega) (by decide)
  have v5 : vp_in (nI (6 * l + 5)) 240 := nI_inN (by omega) (by decide)
  have hcs : t = 0 ∨ t = 1 ∨ t = 2 ∨ t = 3 ∨ t = 4 := by omega
  rcases hcs with rfl | rfl | rfl | rfl | rfl
  · refine ⟨v0, br_f (by decide) (br_f (by decide) (br_f (by decide) ?_))⟩
    have a1 := L2 (Or.inl rfl)
    have a2 := L3 (Or.inl rfl)
    have hs : s < hd 0 := o2 (Or.inl rfl)
    refine M_caskAt hM R w (by omega) hs o3 a1 a2.1 (br_f (by decide) ?_)
    simp only [lvL] at h
    cases hk : ckO hd s m with
    | none =>
      rw [hk] at h
      exact br_t rfl (h I R (fr93_rf _))
    | some k =>
      rw [hk] at h
      have hk1 := ckO_lt w hs hk
      have hc := wf_casks w
      refine br_f (nI_nm1 (by omega)) (br_f (by decide) ⟨v5, ?_⟩)
      rw [a2.2]
      exact M_whyLive (t := 0) (y := 0) hM R w (Or.inl ⟨rfl, hk1, o6⟩) (by omega) a2.2 h
  · refine ⟨v0, br_f (by decide) (br_t rfl ⟨v1, br_f (by decide) ?_⟩)⟩
    have a1 := L2 (Or.inr (Or.inl rfl))
    have hs : s < hd 0 := o2 (Or.inr (Or.inl rfl))
    have h0 := w.1
    rw [a1]
    refine br_f (nI_nm1 (by omega)) (br_f (by decide) ⟨v5, ?_⟩)
    obtain ⟨z', hz'⟩ := any_nI (I 113 (6 * l + 5))
    rw [hz']
    exact M_whyLive (t := 1) (y := 0) hM R w (Or.inr (Or.inl ⟨rfl, hs⟩)) (by omega) hz' h
  · refine ⟨v0, br_f (by decide) (br_f (by decide) (br_t rfl (br_f (by decide) ?_)))⟩
    refine br_f (by decide) (br_f (by decide) ⟨v5, ?_⟩)
    obtain ⟨z', hz'⟩ := any_nI (I 113 (6 * l + 5))
    rw [hz']
    exact M_whyLive (t := 2) (x := 0) (y := 0) hM R w (Or.inr (Or.inr (Or.inl rfl))) (by omega) hz' h
  · refine ⟨v0, br_f (by decide) (br_f (by decide) (br_f (by decide) ?_))⟩
    have a1 := L2 (Or.inr (Or.inr rfl))
    have a2 := L3 (Or.inr rfl)
    have a3 := L4 rfl
    have hs : s < hd 0 := o2 (Or.inr (Or.inr rfl))
    refine M_caskAt hM R w (by omega) hs o3 a1 a2.1 (br_t rfl (M_caskAt hM R w (by omega) (o4 rfl) o5 a3.1 a3.2 ?_))
    simp only [lvL] at h
    cases hk : ckO hd s m with
    | none =>
      rw [hk] at h
      exact br_t rfl (h I R (fr93_rf _))
    | some k =>
      rw [hk] at h
      have hk1 := ckO_lt w hs hk
      have hc := wf_casks w
      refine br_f (nI_nm1 (by omega)) ?_
      cases hj : ckO hd s2 m2 with
      | none =>
        simp only [hj] at h
        exact br_t rfl (h I R (fr93_rf _))
      | some j =>
        simp only [hj] at h
        have hj1 := ckO_lt w (o4 rfl) hj
        refine br_f (nI_nm1 (by omega)) ⟨v5, ?_⟩
        rw [a2.2]
        exact M_whyLive (t := 3) hM R w (Or.inr (Or.inr (Or.inr ⟨rfl, hk1, hj1, o6⟩))) (by omega) a2.2 h
  · refine ⟨v0, br_t rfl ⟨v1, ?_⟩⟩
    have a1 := L5 rfl
    rw [a1, rM_year R, i_add]
    have hz := o7 rfl
    simp only [lvL] at h
    by_cases e : so 0 + z ≤ 39
    · simp only [if_pos e] at h
      refine br_t (nI_le (b := 39) e (by decide)) ⟨v1, M_passYears (by omega) hM R w (fun I' R' f => ?_)⟩
      rw [if_pos (show z ≤ 39 - so 0 by omega)] at R'
      exact h I' R' f
    · simp only [if_neg e] at h
      exact br_f (nI_ge (a := 39) (by omega) (by omega)) (h I R (fr93_rf _))
end ModBook4
