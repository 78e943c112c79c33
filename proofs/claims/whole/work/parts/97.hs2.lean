/-! the class: a scale is added, the lines of scales -/
section Hs7
variable {G : gG} {d : Nat} {I I0 : sI} {J J0 : sJ} {P : sP} {K : sK} {n : Nat} {F : Int32 → sI → sJ → Prop} {FV : sI → sJ → Prop} {sz lm : Nat} {tp : Nat → Nat} {t : tokT} {H : hS} {a c l : Nat}
theorem C_addScale {x y : Nat} {w : List Nat} (S : shL P K l) (p : ap6 a c l) (A : rH6 I J a c l H) (w0 : wH H) (h5 : H.1 0 ≠ 5) (hx : 1 ≤ x ∧ x ≤ 4) (hy : 10 ≤ y ∧ y ≤ 400) (hw : okW w) (h : ∀ I' J', rH6 I' J' a c l (scH H.1 x y, upN H.2.1 (H.1 0) w, H.2.2) → (∀ z k, ¬ (l ≤ z ∧ z ≤ l + 5) → I' z k = I z k) → (∀ z k, z ≠ l + 1 → J' z k = J z k) → FV I' J') : ckV G d mX5_addScale [.ref l, .long (lN (vB 32 w 0)), .int (nI x), .int (nI y)] I J P K n FV := by
  obtain ⟨p1, p2, p3, p4, p5, p6⟩ := p
  obtain ⟨hh, nm, fs⟩ := H
  obtain ⟨⟨l1, l2, l3⟩, N, ⟨k1, k2, k3, k4, k5⟩, g1, g2, g3, g4⟩ := A
  obtain ⟨wf0, wz, -⟩ := w0
  change wf hh (stS hh) at wf0
  dsimp only at l1 l2 l3 N k3 k4 wz
  have w1 : hh 0 ≤ 5 := wf0.1
  change hh 0 ≠ 5 at h5
  have ws := wf_scH (a := x) (b := y) wf0 h5 hx hy wz
  have hc := wf_casks ws.1
  have e0 : scH hh x y 0 = hh 0 + 1 := up_s _ _ _
  have e1 : scH hh x y 1 = hh 1 + x := by unfold scH; rw [up_n _ _ (by omega), up_s]
  have e5 : scH hh x y (5 + hh 0) = x := by unfold scH; rw [up_n _ _ (by omega), up_n _ _ (by omega), up_n _ _ (by omega), up_s]
  have e10 : scH hh x y (10 + hh 0) = y := by unfold scH; rw [up_n _ _ (by omega), up_n _ _ (by omega), up_s]
  have eo : ∀ i, i ≠ 0 → i ≠ 1 → i ≠ 5 + hh 0 → i ≠ 10 + hh 0 → scH hh x y i = hh i := fun i a1 a2 a3 a4 => by unfold scH; rw [up_n _ _ a1, up_n _ _ a2, up_n _ _ a4, up_n _ _ a3]
  have ef : ∀ s, s ≤ hh 0 → fst' (scH hh x y) s = fst' hh s := fun s hs => fst_congr (fun k hk => eo _ (by omega) (by omega) (by omega) (by omega))
  rw [e1] at hc
  have m0 : I l 0 = nI (hh 0) := l1 0 (by decide)
  have m1 : I l 1 = nI (hh 1) := l1 1 (by decide)
  have ck0 : (nI (hh 0)).toNatClampNeg = hh 0 := nI_ck (by omega)
  refine bX5_addScale_0 _ _ _ _ S ?_
  simp only [u2_a _ _ _ _ (show l ≠ l + 2 by omega), u2_a _ _ _ _ (show l ≠ l + 3 by omega), m0, m1, ck0]
  refine br_f (nI_ge (a := hh 0) (b := 5) (by omega) (by decide)) (br_t (nI_le (b := 4) hx.2 (by decide)) ⟨nI_inN (by omega) (by decide), nI_inN (by omega) (by decide), nI_inN (by omega) (by decide), nI_inN (by omega) (by decide), ?_⟩)
  obtain ⟨I1, hI1⟩ : ∃ I1, I1 = u2 (u2 (u2 I (l + 2) (hh 0) (nI x)) (l + 3) (hh 0) (nI y)) (l + 4) (hh 0) (nI (hh 1)) := ⟨_, rfl⟩
  obtain ⟨J1, hJ1⟩ : ∃ J1, J1 = u2 J (l + 1) (hh 0) (lN (vB 32 w 0)) := ⟨_, rfl⟩
  rw [← hI1, ← hJ1]
  have q1 : ∀ z k, z ≠ l + 2 → z ≠ l + 3 → z ≠ l + 4 → I1 z k = I z k := fun z k a1 a2 a3 => by rw [hI1, u2_a _ _ _ _ a3, u2_a _ _ _ _ a2, u2_a _ _ _ _ a1]
  have lp : ∀ (f j : Nat) (I2 : sI), j + f = x → (∀ z k, ¬ (z = l + 5 ∧ hh 1 ≤ k) → I2 z k = I1 z k) → (∀ i, i < j → I2 (l + 5) (hh 1 + i) = nI (hh 0)) → Ok G d mX5_addScale 61 [some (.ref l), none, none, some (.int (nI x)), none, some (.int (nI j))] [] I2 J1 P K n (kV P K n FV) := by
    intro f
    induction f with
    | zero =>
      intro j I2 hj a1 a2
      refine bX5_addScale_61 _ _ _ S (br_t (nI_le (by omega) (by omega)) ?_)
      have n0 : I2 l 0 = nI (hh 0) := by rw [a1 _ _ (by omega), q1 _ _ (by omega) (by omega) (by omega)]; exact m0
      have n1 : I2 l 1 = nI (hh 1) := by rw [a1 _ _ (by omega), q1 _ _ (by omega) (by omega) (by omega)]; exact m1
      rw [u2_k _ _ _ _ (by decide), n0, n1, nI_1, i_add]
      have q2 : ∀ z k, z ≠ l → u2 (u2 I2 l 0 (nI (hh 0 + 1))) l 1 (nI (hh 1 + x)) z k = I2 z k := fun z k hz => by rw [u2_a _ _ _ _ hz, u2_a _ _ _ _ hz]
      have q3 : ∀ z k, z ≠ l → z ≠ l + 2 → z ≠ l + 3 → z ≠ l + 4 → z ≠ l + 5 → u2 (u2 I2 l 0 (nI (hh 0 + 1))) l 1 (nI (hh 1 + x)) z k = I z k := fun z k b1 b2 b3 b4 b5 => by rw [q2 _ _ b1, a1 _ _ (by omega), q1 _ _ b2 b3 b4]
      refine h _ _ ⟨⟨fun k hk => ?_, fun s hs => ?_, fun k hk => ?_⟩, fun s hs => ?_, ⟨?_, ?_, fun k v hk hv => ?_, fun k hk => ?_, fun v hv => ?_⟩, ?_, ?_, ?_, ?_⟩ (fun z k hz => q3 z k (by omega) (by omega) (by omega) (by omega) (by omega)) (fun z k hz => by rw [hJ1]; exact u2_a _ _ _ _ hz)
      · show _ = nI (scH hh x y k)
        by_cases c0 : k = 0
        · subst c0; rw [u2_k _ _ _ _ (by decide), u2_s, e0]
        · by_cases c1 : k = 1
          · subst c1; rw [u2_s, e1]
          · rw [u2_k _ _ _ _ c1, u2_k _ _ _ _ c0, a1 _ _ (by omega), q1 _ _ (by omega) (by omega) (by omega), eo _ c0 c1 (by omega) (by omega)]
            exact l1 k hk
      · have hs : s < scH hh x y 0 := hs
        rw [e0] at hs
        show _ = nI (scH hh x y (5 + s)) ∧ _ = nI (scH hh x y (10 + s)) ∧ _ = nI (fst' (scH hh x y) s)
        rw [q2 _ _ (by omega), q2 _ _ (by omega), q2 _ _ (by omega), a1 _ _ (by omega), a1 _ _ (by omega), a1 _ _ (by omega), ef _ (by omega), hI1]
        by_cases c0 : s = hh 0
        · subst c0
          rw [e5, e10, u2_s, u2_a _ _ _ _ (by omega), u2_a _ _ _ _ (by omega), u2_s, u2_a _ _ _ _ (by omega), u2_s, wf0.2.2.1]
          exact ⟨rfl, rfl, rfl⟩
        · rw [eo (5 + s) (by omega) (by omega) (by omega) (by omega), eo (10 + s) (by omega) (by omega) (by omega) (by omega)]
          rw [u2_k _ _ _ _ c0, u2_k _ _ _ _ c0, u2_k _ _ _ _ c0, u2_k _ _ _ _ c0, u2_k _ _ _ _ c0, u2_k _ _ _ _ c0, u2_k _ _ _ _ c0, u2_k _ _ _ _ c0, u2_k _ _ _ _ c0]
          exact l2 s (by omega)
      · have hk : k < scH hh x y 1 := hk
        rw [e1] at hk
        show _ = nI (sof (scH hh x y) k)
        rw [q2 _ _ (by omega)]
        by_cases c0 : k < hh 1
        · rw [ws.2 k c0, a1 _ _ (by omega), q1 _ _ (by omega) (by omega) (by omega)]
          exact l3 k c0
        · obtain ⟨i, rfl⟩ : ∃ i, k = hh 1 + i := ⟨k - hh 1, by omega⟩
          have : sof (scH hh x y) (hh 1 + i) = hh 0 := sof_is (by omega) (by rw [ef _ (Nat.le_refl _), ← wf0.2.2.1]; omega) (by rw [fst_succ, ef _ (Nat.le_refl _), ← wf0.2.2.1, e5]; omega)
          rw [this]
          exact a2 i (by omega)
      · have hs : s < scH hh x y 0 := hs
        rw [e0] at hs
        show J1 (l + 1) s = lN (vB 32 (upN nm (hh 0) w s) 0) ∧ okW (upN nm (hh 0) w s)
        unfold upN
        by_cases c0 : s = hh 0
        · rw [if_pos c0, c0, hJ1, u2_s]; exact ⟨rfl, hw⟩
        · rw [if_neg c0, hJ1, u2_k _ _ _ _ c0]; exact N s (by show s < hh 0; omega)
      · rw [q3 _ _ (by omega) (by omega) (by omega) (by omega) (by omega)]; exact k1
      · rw [q3 _ _ (by omega) (by omega) (by omega) (by omega) (by omega)]; exact k2
      · show _ = nI (scH hh x y (15 + 40 * k + v))
        rw [q3 _ _ (by omega) (by omega) (by omega) (by omega) (by omega), eo _ (by omega) (by omega) (by omega) (by omega)]; exact k3 k v hk hv
      · have e : hvH (scH hh x y) k = hvH hh k := sm_congr (fun v _ => eo _ (by omega) (by omega) (by omega) (by omega))
        show _ = nI (hvH (scH hh x y) k) ∧ _
        rw [q3 _ _ (by omega) (by omega) (by omega) (by omega) (by omega), q3 _ _ (by omega) (by omega) (by omega) (by omega) (by omega), e]; exact k4 k hk
      · rw [q3 _ _ (by omega) (by omega) (by omega) (by omega) (by omega)]; exact k5 v hv
      · rw [q3 _ _ (by omega) (by omega) (by omega) (by omega) (by omega)]; exact g1
      · rw [q3 _ _ (by omega) (by omega) (by omega) (by omega) (by omega)]; exact g2
      · rw [q3 _ _ (by omega) (by omega) (by omega) (by omega) (by omega)]; exact g3
      · rw [q3 _ _ (by omega) (by omega) (by omega) (by omega) (by omega)]; exact g4
    | succ f ih =>
      intro j I2 hj a1 a2
      have n0 : I2 l 0 = nI (hh 0) := by rw [a1 _ _ (by omega), q1 _ _ (by omega) (by omega) (by omega)]; exact m0
      have n1 : I2 l 1 = nI (hh 1) := by rw [a1 _ _ (by omega), q1 _ _ (by omega) (by omega) (by omega)]; exact m1
      refine bX5_addScale_61 _ _ _ S (br_f (nI_ge (by omega) (by omega)) ?_)
      rw [n0, n1, i_add, nI_ck (show hh 1 + j < 2147483648 by omega), nI_1]
      refine ⟨nI_inN (by omega) (by decide), ih (j + 1) _ (by omega) (fun z k hz => ?_) (fun i hi => ?_)⟩
      · simp only [u2]
        rw [if_neg (by omega)]
        exact a1 z k hz
      · by_cases c0 : i = j
        · subst c0; rw [u2_s]
        · rw [u2_k _ _ _ _ (by omega)]; exact a2 i (by omega)
  exact lp x 0 I1 (by omega) (fun _ _ _ => rfl) (fun i hi => absurd hi (Nat.not_lt_zero i))
theorem fau_1 {t : tokT} : fau t 1 = 1 := by
  unfold fau
  split <;> rfl
theorem C_readScale (hX : shX P K) (hP : P 2 0 = some 1) (hH : shH P K a c l) (hC : shC P K c) (hL : shL P K l) (p : ap6 a c l) (R : rP6 I J sz lm tp t) (A : rH6 I J a c l H) (w0 : wH H) (t2 : t.1 = 2) (h : hP6 a c l I J sz lm tp F (pScale (nxT tp sz lm) H t)) : ckI G (d + 7) mX4_readScale [.ref a] I J P K n F := by
  have ha := p.1
  have hl := p.2.2.1
  have w1 := w0.1.1
  refine bX4_readScale_0 hX _ hH hC hL ?_
  rw [A.1.1 0 (by decide)]
  unfold pScale at h
  by_cases c5 : H.1 0 = 5
  · rw [if_pos c5] at h
    exact br_f (nI_nlt (b := 5) (by omega) (by omega)) (C_badH (k := 4) hX R (kp6_rf a c l I J) (fau_2 t2) h)
  · rw [if_neg c5] at h
    refine br_t (nI_lt (b := 5) (by omega) (by decide)) (C_nx (d := d + 1) hX hP R (fun I2 J2 R2 f2 => C_isName hX R2 (b01n (fun en => ?_) (fun en => ?_))))
    · rw [if_pos en] at h
      exact C_badH (k := 1) hX R2 (kp6_9 p (kp6_rf a c l I J) (fr9_6 f2)) fau_1 h
    · rw [if_neg (by rw [en]; decide)] at h
      have t3 := isN_2 en
      have A2 := rH6_f9 p A (fr9_6 f2)
      have ow := R2.2.2.1.2.2.2.1 t3
      have kp2 := kp6_9 p (kp6_rf a c l I J) (fr9_6 f2)
      rw [R2.2.1.2.2.2.2.1 t3]
      refine C_scaleNamed hL (A2.1.1 0 (by decide)) w1 A2.2.1 ow ?_
      cases e : fndN H.2.1 (nxT tp sz lm t).2.2.2.2 (H.1 0) 0 with
      | some s =>
        rw [e] at h
        have := fndN_lt e
        exact br_f (nI_nm1 (by omega)) (C_badH (k := 3) hX R2 kp2 (fau_2 t3) h)
      | none =>
        rw [e] at h
        refine br_t rfl (C_nx (d := d + 1) hX hP R2 (fun I3 J3 R3 f3 => ?_))
        have kp3 := kp6_9 p kp2 (fr9_6 f3)
        have A3 := rH6_f9 p A2 (fr9_6 f3)
        refine C_takeNumber (a := 1) (b := 4) (by decide) (by decide) hX hP R3 (fun e1 I' g1 g2 g3 => br_t rfl ?_) (fun e1 I4 J4 R4 g1 g2 => br_f (by decide) ?_)
        · rw [rdN_bad e1] at h
          exact h I' J3 g1 g2 (kp6_F kp3 g3)
        · rw [rdN_ok e1] at h
          have kp4 := kp6_9 p kp3 g2
          have A4 := rH6_f9 p A3 g2
          refine C_takeNumber (a := 10) (b := 400) (by decide) (by decide) hX hP R4 (fun e2 I' g3 g4 g5 => br_t rfl ?_) (fun e2 I5 J5 R5 g3 g4 => br_f (by decide) ?_)
          · dsimp only at h
            rw [rdN_bad e2] at h
            exact h I' J4 g3 g4 (kp6_F kp4 g5)
          · dsimp only at h
            rw [rdN_ok e2] at h
            have kp5 := kp6_9 p kp4 g4
            have A5 := rH6_f9 p A4 g4
            rw [g1, g3]
            have r1 := eN_range e1
            have r2 := eN_range e2
            refine C_addScale hL p A5 w0 c5 ⟨r1.2.1, r1.2.2⟩ ⟨r2.2.1, r2.2.2⟩ ow (fun I6 J6 A6 q1 q2 => h I6 J6 A6 ?_ ?_)
            · obtain ⟨S5, T5, o5⟩ := R5
              refine ⟨⟨(q1 2 1 (by omega)).trans S5.1, (q1 2 2 (by omega)).trans S5.2.1, S5.2.2.1, S5.2.2.2.1, fun j hj => ⟨(q1 1 j (by omega)).trans (S5.2.2.2.2 j hj).1, (S5.2.2.2.2 j hj).2⟩⟩, ⟨(q1 2 3 (by omega)).trans T5.1, (q1 2 4 (by omega)).trans T5.2.1, (q1 2 5 (by omega)).trans T5.2.2.1, fun z => (q1 2 6 (by omega)).trans (T5.2.2.2.1 z), fun z => (q2 2 7 (by omega)).trans (T5.2.2.2.2.1 z), (q1 2 8 (by omega)).trans T5.2.2.2.2.2⟩, o5⟩
            · obtain ⟨p1, p2, p3, p4, p5, p6⟩ := p
              exact ⟨(q1 2 9 (by omega)).trans kp5.1, (q1 2 10 (by omega)).trans kp5.2.1, (q1 a 7 (by omega)).trans kp5.2.2.1, fun z k h1 h2 h3 h4 => (q1 z k h3).trans (kp5.2.2.2.1 z k h1 h2 h3 h4), fun z k h1 h2 => (q2 z k h2).trans (kp5.2.2.2.2 z k h1 h2)⟩
end Hs7
