/-! the reference: image, restore, stay -/
section ModKeep
variable {G : gG} {d : Nat} {I : sI} {J : sJ} {P : sP} {K : sK} {n : Nat} {F : Int32 → sI → sJ → Prop} {FV : sI → sJ → Prop} {hd so : Nat → Nat}
theorem M_image (x : Int32) (hM : shM P K) (h0 : inB x 2 = false → F 0 (u2 I 91 0 0) J) (h1 : ∀ k, k < 2 → x = nI k → ∀ I' J', (∀ i, i < 1920 → I' 95 (1920 * k + i) = I 93 i) → (∀ i, i < 5 → J' 100 (5 * k + i) = J 98 i) → I' 101 k = 1 → (∀ c i, ¬ (c = 95 ∧ 1920 * k ≤ i ∧ i < 1920 * k + 1920) → ¬ (c = 101 ∧ i = k) → I' c i = u2 I 91 0 0 c i) → (∀ c i, ¬ (c = 100 ∧ 5 * k ≤ i ∧ i < 5 * k + 5) → J' c i = J c i) → F 1 I' J') : ckI G (d + 1) mX12_image [.ref 91, .int x] I J P K n F := by
  have e0 := isB_0 x (N := 2) (by decide)
  have e3 : (nI 2 - 1 : Int32) = 1 := by decide
  rw [e3] at e0
  refine bX12_image_0 hM _ (M_isIn _ _ _ ?_)
  rw [e0]
  refine b01n h0 (fun e => ?_)
  obtain ⟨k, hk, rfl⟩ := inB_t e
  have h1 := h1 k hk rfl
  have key := loopN 1920 (fun t => ∀ I', (∀ i, i < t → I' 95 (1920 * k + i) = I 93 i) → (∀ c i, ¬ (c = 95 ∧ 1920 * k ≤ i ∧ i < 1920 * k + 1920) → I' c i = u2 I 91 0 0 c i) → Ok G (d + 1) mX12_image 18 [some (.ref 91), some (.int (nI k)), some (.int (nI t))] [] I' J P K n (kI P K n F)) ?_ ?_ 0 (by omega)
  · exact key _ (fun i hi => by omega) (fun _ _ _ => rfl)
  · intro I' g1 g2
    refine bX12_image_18 hM _ _ (br_t (by decide) ?_)
    have key2 := loopN 5 (fun t => ∀ J', (∀ i, i < t → J' 100 (5 * k + i) = J 98 i) → (∀ c i, ¬ (c = 100 ∧ 5 * k ≤ i ∧ i < 5 * k + 5) → J' c i = J c i) → Ok G (d + 1) mX12_image 51 [some (.ref 91), some (.int (nI k)), some (.int (nI t))] [] I' J' P K n (kI P K n F)) ?_ ?_ 0 (by omega)
    · exact key2 J (fun i hi => by omega) (fun _ _ _ => rfl)
    · intro J' k1 k2
      refine bX12_image_51 hM _ _ (br_t (by decide) ⟨nI_inN hk (by decide), ?_⟩)
      rw [nI_ck (by omega)]
      refine h1 _ J' (fun i hi => ?_) k1 (u2_s _ _ _ _) (fun c i a1 a2 => ?_) k2
      · rw [u2_a _ _ _ _ (by decide)]; exact g1 i hi
      · rw [← g2 c i a1]
        simp only [u2]
        rw [if_neg a2]
    · intro t ht ih J' k1 k2
      refine bX12_image_51 hM _ _ (br_f (nI_ge (b := 5) ht (by decide)) ?_)
      have e5 : 5 * nI k + nI t = nI (5 * k + t) := by show nI 5 * nI k + nI t = _; rw [i_mul, i_add]
      rw [e5, nI_ck (by omega), nI_ck (by omega), nI_1, k2 98 t (by omega)]
      refine ⟨nI_inN ht (by decide), nI_inN (by omega) (by decide), ih _ (fun i hi => ?_) (fun c i a => ?_)⟩
      · by_cases q : i = t
        · subst q; rw [u2_s]
        · rw [u2_k _ _ _ _ (by omega)]; exact k1 i (by omega)
      · rw [← k2 c i a]
        simp only [u2]
        rw [if_neg (by omega)]
  · intro t ht ih I' g1 g2
    refine bX12_image_18 hM _ _ (br_f (nI_ge (b := 1920) ht (by decide)) ?_)
    have e5 : 1920 * nI k + nI t = nI (1920 * k + t) := by show nI 1920 * nI k + nI t = _; rw [i_mul, i_add]
    have e93 : I' 93 t = I 93 t := (g2 93 t (by omega)).trans (u2_a _ _ _ _ (by decide))
    rw [e5, nI_ck (by omega), nI_ck (by omega), nI_1, e93]
    refine ⟨nI_inN ht (by decide), nI_inN (by omega) (by decide), ih _ (fun i hi => ?_) (fun c i a => ?_)⟩
    · by_cases q : i = t
      · subst q; rw [u2_s]
      · rw [u2_k _ _ _ _ (by omega)]; exact g1 i (by omega)
    · rw [← g2 c i a]
      simp only [u2]
      rw [if_neg (by omega)]
theorem M_restore (x : Int32) (hM : shM P K) (h0 : (inB x 2 = false ∨ ∃ k, k < 2 ∧ x = nI k ∧ I 101 k = 0) → F 0 (u2 I 91 0 0) J) (h1 : ∀ k, k < 2 → x = nI k → I 101 k ≠ 0 → ∀ I' J', (∀ i, i < 1920 → I' 93 i = I 95 (1920 * k + i)) → (∀ i, i < 5 → J' 98 i = J 100 (5 * k + i)) → I' 91 27 = 0 → (∀ c i, ¬ (c = 93 ∧ i < 1920) → ¬ (c = 91 ∧ i = 27) → I' c i = u2 I 91 0 0 c i) → (∀ c i, ¬ (c = 98 ∧ i < 5) → J' c i = J c i) → F 1 I' J') : ckI G (d + 1) mX12_restore [.ref 91, .int x] I J P K n F := by
  have e0 := isB_0 x (N := 2) (by decide)
  have e3 : (nI 2 - 1 : Int32) = 1 := by decide
  rw [e3] at e0
  refine bX12_restore_0 hM _ (M_isIn _ _ _ ?_)
  rw [e0]
  refine b01n (fun e => h0 (Or.inl e)) (fun e => ?_)
  obtain ⟨k, hk, rfl⟩ := inB_t e
  rw [nI_ck (by omega), u2_a _ _ _ _ (by decide)]
  refine ⟨nI_inN hk (by decide), fun q => h0 (Or.inr ⟨k, hk, rfl, q⟩), fun q => ?_⟩
  have h1 := h1 k hk rfl q
  have key := loopN 1920 (fun t => ∀ I', (∀ i, i < t → I' 93 i = I 95 (1920 * k + i)) → (∀ c i, ¬ (c = 93 ∧ i < 1920) → I' c i = u2 I 91 0 0 c i) → Ok G (d + 1) mX12_restore 27 [some (.ref 91), some (.int (nI k)), some (.int (nI t))] [] I' J P K n (kI P K n F)) ?_ ?_ 0 (by omega)
  · exact key _ (fun i hi => by omega) (fun _ _ _ => rfl)
  · intro I' g1 g2
    refine bX12_restore_27 hM _ _ (br_t (by decide) ?_)
    have key2 := loopN 5 (fun t => ∀ J', (∀ i, i < t → J' 98 i = J 100 (5 * k + i)) → (∀ c i, ¬ (c = 98 ∧ i < 5) → J' c i = J c i) → Ok G (d + 1) mX12_restore 60 [some (.ref 91), some (.int (nI k)), some (.int (nI t))] [] I' J' P K n (kI P K n F)) ?_ ?_ 0 (by omega)
    · exact key2 J (fun i hi => by omega) (fun _ _ _ => rfl)
    · intro J' k1 k2
      refine bX12_restore_60 hM _ _ (br_t (by decide) (h1 _ J' (fun i hi => ?_) k1 (u2_s _ _ _ _) (fun c i a1 a2 => ?_) k2))
      · rw [u2_a _ _ _ _ (by decide)]; exact g1 i hi
      · rw [← g2 c i a1]
        simp only [u2]
        rw [if_neg a2]
    · intro t ht ih J' k1 k2
      refine bX12_restore_60 hM _ _ (br_f (nI_ge (b := 5) ht (by decide)) ?_)
      have e5 : 5 * nI k + nI t = nI (5 * k + t) := by show nI 5 * nI k + nI t = _; rw [i_mul, i_add]
      rw [e5, nI_ck (by omega), nI_ck (by omega), nI_1, k2 100 _ (by omega)]
      refine ⟨nI_inN (by omega) (by decide), nI_inN ht (by decide), ih _ (fun i hi => ?_) (fun c i a => ?_)⟩
      · by_cases q : i = t
        · subst q; rw [u2_s]
        · rw [u2_k _ _ _ _ (by omega)]; exact k1 i (by omega)
      · rw [← k2 c i a]
        simp only [u2]
        rw [if_neg (by omega)]
  · intro t ht ih I' g1 g2
    refine bX12_restore_27 hM _ _ (br_f (nI_ge (b := 1920) ht (by decide)) ?_)
    have e5 : 1920 * nI k + nI t = nI (1920 * k + t) := by show nI 1920 * nI k + nI t = _; rw [i_mul, i_add]
    have e95 : I' 95 (1920 * k + t) = I 95 (1920 * k + t) := (g2 95 _ (by omega)).trans (u2_a _ _ _ _ (by decide))
    rw [e5, nI_ck (by omega), nI_ck (by omega), nI_1, e95]
    refine ⟨nI_inN (by omega) (by decide), nI_inN ht (by decide), ih _ (fun i hi => ?_) (fun c i a => ?_)⟩
    · by_cases q : i = t
      · subst q; rw [u2_s]
      · rw [u2_k _ _ _ _ (by omega)]; exact g1 i (by omega)
    · rw [← g2 c i a]
      simp only [u2]
      rw [if_neg (by omega)]
/-- what was lived (so) stays, or what was ahead of it (sa) comes back -/
theorem M_stay {c : Nat} {us : Nat → Nat → Nat} {sa : Nat → Nat} (b : Bool) (hM : shM P K) (R : rM I hd so) (A : ∀ j, j < 863 → I 97 j = nI (sa j)) (U : rU I c us) (h : ∀ I', rM I' hd (if b then so else sa) → rU I' (psC b c) (psU b us sa) → (∀ a k, a ≠ 96 → a ≠ 97 → ¬ (a = 93 ∧ 815 ≤ k ∧ k < 1678) → ¬ (a = 91 ∧ k = 27) → I' a k = I a k) → FV I' J) : ckV G (d + 1) mX12_stay [.ref 91, .int (b01 b)] I J P K n FV := by
  have key := loopN 863 (fun t => ∀ I', (∀ j, j < t → I' 93 (815 + j) = nI (sa j) ∧ I' 97 j = nI (so j)) → (∀ j, t ≤ j → j < 863 → I' 93 (815 + j) = nI (so j) ∧ I' 97 j = nI (sa j)) → (∀ a k, a ≠ 97 → ¬ (a = 93 ∧ 815 ≤ k ∧ k < 1678) → I' a k = I a k) → Ok G (d + 1) mX12_stay 2 [some (.ref 91), some (.int (b01 b)), some (.int (nI t)), none] [] I' J P K n (kV P K n FV)) ?_ ?_ 0 (by omega)
  · exact bX12_stay_0 _ (key I (fun j hj => by omega) (fun j _ hj => ⟨R.2 j hj, A j hj⟩) (fun _ _ _ _ => rfl))
  · intro I' g1 _ g3
    have R' : rM I' hd sa := ⟨fun k hk => (g3 93 k (by decide) (by omega)).trans (R.1 k hk), fun j hj => (g1 j hj).1⟩
    have U' : rU I' c us := ⟨(g3 91 27 (by decide) (by omega)).trans U.1, U.2.1, fun i j hi hj => (g3 96 _ (by decide) (by omega)).trans (U.2.2 i j hi hj)⟩
    refine bX12_stay_2 hM _ _ (br_t (by decide) (b01n (fun e => ?_) (fun e => ?_)))
    · subst e
      exact h I' R' U' (fun a k a1 a2 a3 a4 => g3 a k a2 a3)
    · subst e
      refine M_snap hM R'.2 U' (fun I1 U1 f1 => M_takeBack (sa := so) hM (fun j hj => (f1 97 j (by decide) (by omega)).trans (g1 j hj).2) (fun I2 S2 f2 => h I2 ⟨fun k hk => ?_, S2⟩ ⟨?_, U1.2.1, fun i j hi hj => ?_⟩ (fun a k a1 a2 a3 a4 => ?_)))
      · rw [f2 93 k (by omega), f1 93 k (by decide) (by omega)]; exact R'.1 k hk
      · rw [f2 91 27 (by omega)]; exact U1.1
      · rw [f2 96 _ (by omega)]; exact U1.2.2 i j hi hj
      · rw [f2 a k a3, f1 a k a1 a4]; exact g3 a k a2 a3
  · intro t ht ih I' g1 g2 g3
    refine bX12_stay_2 hM _ _ (br_f (nI_ge (b := 863) ht (by decide)) ?_)
    have e1 : (815 + nI t : Int32) = nI (815 + t) := by show nI 815 + nI t = _; rw [i_add]
    have hv := nI_inN (n := 815 + t) (N := 1920) (by omega) (by decide)
    have hw := nI_inN (n := t) (N := 863) ht (by decide)
    rw [e1, nI_ck (by omega), nI_ck (by omega), nI_1, (g2 t (Nat.le_refl _) ht).1, (g2 t (Nat.le_refl _) ht).2]
    refine ⟨hv, hw, hv, hw, ih _ (fun j hj => ?_) (fun j hj hj2 => ?_) (fun a k a1 a2 => ?_)⟩
    · by_cases q : j = t
      · subst q
        rw [u2_a _ _ _ _ (by decide), u2_s, u2_s]
        exact ⟨rfl, rfl⟩
      · rw [u2_a _ _ _ _ (by decide), u2_k _ _ _ _ (by omega), u2_k _ _ _ _ q, u2_a _ _ _ _ (by decide)]
        exact g1 j (by omega)
    · rw [u2_a _ _ _ _ (by decide), u2_k _ _ _ _ (by omega), u2_k _ _ _ _ (by omega), u2_a _ _ _ _ (by decide)]
      exact g2 j (by omega) hj2
    · rw [u2_a _ _ _ _ a1, ← g3 a k a1 a2]
      simp only [u2]
      rw [if_neg (by omega)]
end ModKeep
