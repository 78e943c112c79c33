/-! the class: the lines of wine, a line, a house -/
theorem hv_ltr (h : Nat → Nat) (k : Nat) : ltr (stS h) k = hvH h k := sm_congr (fun v _ => stS_wn h k v)
theorem hv_up {h : Nat → Nat} {k v x : Nat} (hv : v < 40) (k' : Nat) : hvH (wnH h k v x) k' = if k' = k then hvH h k + x else hvH h k' := by
  by_cases e : k' = k
  · subst e
    rw [if_pos rfl]
    have := sm_upw (h := h) (q := 15 + 40 * k') (v := v) (x := h (15 + 40 * k' + v) + x) hv
    unfold hvH wnH
    omega
  · rw [if_neg e]
    refine sm_congr (fun i hi => ?_)
    unfold wnH
    rw [up_n _ _ (by omega)]
section Hs8
variable {G : gG} {d : Nat} {I I0 : sI} {J J0 : sJ} {P : sP} {K : sK} {n : Nat} {F : Int32 → sI → sJ → Prop} {FV : sI → sJ → Prop} {sz lm : Nat} {tp : Nat → Nat} {t : tokT} {H : hS} {a c l : Nat}
theorem C_lackOf6 {hd so : Nat → Nat} {k : Nat} (hC : shC P K c) (hc0 : P c 0 = some l) (hL : shL P K l) (L : rL I l hd) (w : wf hd so) (hk : k < hd 1) (hv : I (c + 22) k = nI (ltr so k)) (h : F (nI (lck hd so k)) I J) : ckI G (d + 1) mX1_lackOf [.ref c, .int (nI k)] I J P K n F := by
  have hcs := wf_casks w
  refine bX1_lackOf_0 _ _ hC ⟨l, hc0, hL, C_holdsOf hL L w hk ⟨nI_inN (by omega) (by decide), ?_⟩⟩
  rw [nI_ck (by omega), hv, i_sub (w.2.2.2.2.2.2.2.1 k hk)]
  exact h
theorem rH6_w {k v x : Nat} (p : ap6 a c l) (A : rH6 I J a c l H) (h5 : H.1 0 ≤ 5) (hk : k < 20) (hv : v < 40) : rH6 (u2 (u2 I (c + 2 + k) v (nI (H.1 (15 + 40 * k + v) + x))) (c + 22) k (nI (hvH H.1 k + x))) J a c l (wnH H.1 k v x, H.2) := by
  obtain ⟨p1, p2, p3, p4, p5, p6⟩ := p
  obtain ⟨⟨l1, l2, l3⟩, N, ⟨k1, k2, k3, k4, k5⟩, g1, g2, g3, g4⟩ := A
  have q : ∀ z j, z ≠ c + 2 + k → z ≠ c + 22 → u2 (u2 I (c + 2 + k) v (nI (H.1 (15 + 40 * k + v) + x))) (c + 22) k (nI (hvH H.1 k + x)) z j = I z j := fun z j b1 b2 => by rw [u2_a _ _ _ _ b2, u2_a _ _ _ _ b1]
  have o : ∀ i, i < 15 → wnH H.1 k v x i = H.1 i := fun i hi => by unfold wnH; rw [up_n _ _ (by omega)]
  refine ⟨⟨fun j hj => ?_, fun s hs => ?_, fun j hj => ?_⟩, fun s hs => ?_, ⟨?_, ?_, fun j u hj hu => ?_, fun j hj => ⟨?_, ?_⟩, fun u hu => ?_⟩, ?_, ?_, ?_, ?_⟩
  · show _ = nI (wnH H.1 k v x j)
    rw [o j (by omega), q _ _ (by omega) (by omega)]; exact l1 j hj
  · have hs : s < wnH H.1 k v x 0 := hs
    rw [o 0 (by omega)] at hs
    show _ = nI (wnH H.1 k v x (5 + s)) ∧ _ = nI (wnH H.1 k v x (10 + s)) ∧ _ = nI (fst' (wnH H.1 k v x) s)
    rw [o _ (by omega), o _ (by omega), fst_congr (h := H.1) (fun k _ => o _ (by omega)), q _ _ (by omega) (by omega), q _ _ (by omega) (by omega), q _ _ (by omega) (by omega)]
    exact l2 s hs
  · have hj : j < wnH H.1 k v x 1 := hj
    rw [o 1 (by omega)] at hj
    show _ = nI (sof (wnH H.1 k v x) j)
    rw [sof_congr (h := H.1) (fun k _ => o _ (by omega)), q _ _ (by omega) (by omega)]; exact l3 j hj
  · have hs : s < wnH H.1 k v x 0 := hs
    rw [o 0 (by omega)] at hs
    exact N s hs
  · rw [q _ _ (by omega) (by omega)]; exact k1
  · rw [q _ _ (by omega) (by omega)]; exact k2
  · show _ = nI (wnH H.1 k v x (15 + 40 * j + u))
    rw [u2_a _ _ _ _ (by omega)]
    unfold wnH
    by_cases e : j = k ∧ u = v
    · rw [e.1, e.2, u2_s, up_s]
    · rw [up_n _ _ (by omega)]
      simp only [u2]
      rw [if_neg (by omega)]
      exact k3 j u hj hu
  · show _ = nI (hvH (wnH H.1 k v x) j)
    rw [hv_up hv]
    by_cases e : j = k
    · rw [if_pos e, e, u2_s]
    · rw [if_neg e, u2_k _ _ _ _ e, u2_a _ _ _ _ (by omega)]; exact (k4 j hj).1
  · rw [q _ _ (by omega) (by omega)]; exact (k4 j hj).2
  · rw [q _ _ (by omega) (by omega)]; exact k5 u hu
  · rw [q _ _ (by omega) (by omega)]; exact g1
  · rw [q _ _ (by omega) (by omega)]; exact g2
  · rw [q _ _ (by omega) (by omega)]; exact g3
  · rw [q _ _ (by omega) (by omega)]; exact g4
theorem C_readWine (hX : shX P K) (hP : P 2 0 = some 1) (hH : shH P K a c l) (hC : shC P K c) (hL : shL P K l) (hc0 : P c 0 = some l) (p : ap6 a c l) (R : rP6 I J sz lm tp t) (A : rH6 I J a c l H) (w0 : wH H) (h : hP6 a c l I J sz lm tp F (pWine (nxT tp sz lm) H t)) : ckI G (d + 7) mX4_readWine [.ref a] I J P K n F := by
  obtain ⟨p1, p2, p3, p4, p5, p6⟩ := id p
  have w1 := w0.1.1
  have wf0 := w0.1
  have hcs := wf_casks wf0
  refine bX4_readWine_0 hX _ hH hC hL ?_
  have A1 : rH6 (u2 I a 6 1) J a c l (H.1, H.2.1, H.2.2.1, H.2.2.2.1, H.2.2.2.2.1, true) := rH6_g p A rfl rfl ⟨(u2_k _ _ _ _ (by decide)).trans A.2.2.2.1, (u2_k _ _ _ _ (by decide)).trans A.2.2.2.2.1, (u2_k _ _ _ _ (by decide)).trans A.2.2.2.2.2.1, u2_s _ _ _ _⟩
  have kp1 : kp6 a c l I (u2 I a 6 1) J J := kp6_u p (kp6_rf a c l I J) (Or.inl ⟨rfl, by decide⟩)
  unfold pWine at h
  refine C_nx (d := d + 1) hX hP (rP6_o R _ (by omega)) (fun I2 J2 R2 f2 => ?_)
  have A2 := rH6_f9 p A1 (fr9_6 f2)
  have kp2 := kp6_9 p kp1 (fr9_6 f2)
  refine C_takeScale hL (by omega) (A2.1.1 0 (by decide)) w1 A2.2.1 hX hP R2 (fun en I' g1 g2 g3 => br_t rfl ?_) (fun en nn I' g1 g2 g3 => br_t rfl ?_) (fun en s es I4 J4 R4 g1 g2 => br_f (by decide) ?_)
  · rw [if_pos en] at h
    exact h I' J2 (by rw [g1]; show _ = nI (fau _ 1); rw [fau_1]; rfl) g2 (kp6_F kp2 g3)
  · rw [if_neg (by rw [en]; decide), nn] at h
    exact h I' J2 (by rw [g1]; show _ = nI (fau _ 3); rw [fau_2 (isN_2 en)]; rfl) g2 (kp6_F kp2 g3)
  · rw [if_neg (by rw [en]; decide), es] at h
    dsimp only at h
    have hs : s < H.1 0 := by have this : s < 0 + H.1 0 := (fndN_lt es).2.1; omega
    have A4 := rH6_f9 p A2 g2
    have kp4 := kp6_9 p kp2 g2
    have hz := w0.1.2.1 s hs
    have B4 : I4 (l + 2) s = nI (H.1 (5 + s)) ∧ _ := A4.1.2.1 s hs
    rw [g1, nI_ck (show s < 2147483648 by omega)]
    refine ⟨nI_inN (by omega) (by decide), ?_⟩
    have e1 : I4 (l + 2) s - 1 = nI (H.1 (5 + s) - 1) := by rw [B4.1]; exact i_sub (b := 1) hz.1
    rw [e1]
    refine C_takeNumber (a := 0) (b := H.1 (5 + s) - 1) (by decide) (by omega) hX hP R4 (fun e1 I' g3 g4 g5 => br_t rfl ?_) (fun e1 I5 J5 R5 g3 g4 => br_f (by decide) ?_)
    · rw [rdN_bad e1] at h
      exact h I' J4 g3 g4 (kp6_F kp4 g5)
    · rw [rdN_ok e1] at h
      dsimp only at h
      have A5 := rH6_f9 p A4 g4
      have kp5 := kp6_9 p kp4 g4
      have B5 : I5 (l + 2) s = nI (H.1 (5 + s)) ∧ I5 (l + 3) s = nI (H.1 (10 + s)) ∧ I5 (l + 4) s = nI (fst' H.1 s) := A5.1.2.1 s hs
      have r1 := eN_range e1
      have hk := wf_in wf0 hs (i := (nxT tp sz lm (nxT tp sz lm t)).2.2.2.1) (by omega)
      generalize (nxT tp sz lm (nxT tp sz lm t)).2.2.2.1 = pn at h hk g3 r1
      rw [g3, B5.2.2, i_add, show I5 l 4 = nI (H.1 4) from A5.1.1 4 (by decide)]
      refine ⟨nI_inN (by omega) (by decide), ?_⟩
      have h4 := w0.1.2.2.2.2.2.1
      refine C_takeNumber (a := 0) (b := H.1 4) (by decide) (by omega) hX hP R5 (fun e2 I' g5 g6 g7 => br_t rfl ?_) (fun e2 I6 J6 R6 g5 g6 => br_f (by decide) ?_)
      · rw [rdN_bad e2] at h
        exact h I' J5 g5 g6 (kp6_F kp5 g7)
      · rw [rdN_ok e2] at h
        dsimp only at h
        have A6 := rH6_f9 p A5 g6
        have kp6' := kp6_9 p kp5 g6
        have r2 := eN_range e2
        have hlk : lck H.1 (stS H.1) (fst' H.1 s + pn) ≤ 400 := by
          have := (sof_at wf0 hk).1
          have h10 := (w0.1.2.1 _ this).2.2.2
          unfold lck hol
          omega
        refine C_lackOf6 hC hc0 hL A6.1 wf0 hk (by rw [hv_ltr]; exact (A6.2.2.1.2.2.2.1 _ (by omega)).1) ?_
        refine C_takeNumber (a := 1) (b := lck H.1 (stS H.1) (fst' H.1 s + pn)) (by decide) (by omega) hX hP R6 (fun e3 I' g7 g8 g9 => br_t rfl ?_) (fun e3 I7 J7 R7 g7 g8 => br_f (by decide) ?_)
        · rw [rdN_bad e3] at h
          exact h I' J6 g7 g8 (kp6_F kp6' g9)
        · rw [rdN_ok e3] at h
          dsimp only at h
          have A7 := rH6_f9 p A6 g8
          have kp7 := kp6_9 p kp6' g8
          rw [nI_ck (show fst' H.1 s + pn < 2147483648 by omega), g5]
          generalize (nxT tp sz lm (nxT tp sz lm (nxT tp sz lm t))).2.2.2.1 = vn at h r2 g5
          rw [nI_ck (show vn < 2147483648 by omega)]
          refine ⟨nI_inN (by omega) (by decide), nI_inN (by omega) (by decide), nI_inN (by omega) (by decide), nI_inN (by omega) (by decide), nI_inN (by omega) (by decide), ?_⟩
          rw [u2_a _ _ _ _ (show c + 22 ≠ c + 2 + (fst' H.1 s + pn) by omega), u2_a _ _ _ _ (show 2 ≠ c + 2 + (fst' H.1 s + pn) by omega), g7, A7.2.2.1.2.2.1 _ vn (show fst' H.1 s + pn < 20 by omega) (by omega), (A7.2.2.1.2.2.2.1 _ (show fst' H.1 s + pn < 20 by omega)).1, i_add, i_add]
          exact h _ _ (rH6_w p A7 w1 (by omega) (by omega)) (rP6_o (rP6_o R7 _ (by omega)) _ (by omega)) (kp6_u p (kp6_u p kp7 (Or.inr (Or.inr (by omega)))) (Or.inr (Or.inr (by omega))))
end Hs8
