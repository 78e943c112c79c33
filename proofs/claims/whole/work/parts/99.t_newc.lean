/-! the class: a new cellar -/
section NewC
variable {G : gG} {d : Nat} {I : sI} {J : sJ} {P : sP} {K : sK} {n : Nat} {c l : Nat}
theorem C_newC {F : sI → sJ → sP → sK → Nat → Prop} (ha : c + 1 = n) (hl : l < c) (hk : K c = (1, 8)) (hkl : (K l).1 = 5) (hn : n + 24 ≤ 601024) (hS : gS K n + 900 ≤ 7293034) (h : ∀ I' J' P' K', shC P' K' c → P' c 0 = some l → I' c 1 = I l 4 → I' c 2 = I c 2 → I' c 3 = I c 3 → (∀ x k, c < x → x ≤ c + 24 → I' x k = 0) → (∀ x k, x < c → I' x k = I x k ∧ J' x k = J x k ∧ P' x k = P x k) → (∀ x, x < n → K' x = K x) → gS K' (n + 24) = gS K n + 900 → F I' J' P' K' (n + 24)) : cqV G (d + 1) mX1_init [.ref c, .ref l] I J P K n F := by
  have hk1 : (K c).1 = 1 := by rw [hk]
  have g0 : gS (mnK K n 20 40) (n + (20 + 1)) = gS K n + 820 := by
    have := gS_mn K n 20 40 20 (Nat.le_refl _)
    rw [show n + 1 + 20 = n + (20 + 1) by omega] at this
    rw [this]
  have g1 : gS (u1 (mnK K n 20 40) (n + (20 + 1)) (13, 20)) (n + (20 + 1) + 1) = gS K n + 840 := by rw [gS_new, g0]; rfl
  have g2 : gS (u1 (u1 (mnK K n 20 40) (n + (20 + 1)) (13, 20)) (n + (20 + 1) + 1) (13, 20)) (n + (20 + 1) + 1 + 1) = gS K n + 860 := by rw [gS_new, g1]; rfl
  have g3 : gS (u1 (u1 (u1 (mnK K n 20 40) (n + (20 + 1)) (13, 20)) (n + (20 + 1) + 1) (13, 20)) (n + (20 + 1) + 1 + 1) (13, 40)) (n + (20 + 1) + 1 + 1 + 1) = gS K n + 900 := by rw [gS_new, g2]; rfl
  subst ha
  have e0 : ∀ x, x < c + 1 → (mnK K (c + 1) 20 40) x = K x := fun x hx => by unfold mnK; rw [if_neg (by omega), if_neg (by omega)]
  have e1 : ∀ (K' : sK) (m x : Nat) (v : Nat × Nat), x < m → (u1 K' m v) x = K' x := fun K' m x v hm => u1_a _ _ (by omega)
  refine bX1_init_0 _ _ ⟨by omega, by omega, ?_, by omega, by omega, ?_, by omega, by omega, ?_, by omega, by omega, ?_, ?_, ?_, ?_, ?_⟩
  · rw [e0 _ (by omega)]; exact hk1
  · rw [e1 _ _ _ _ (by omega), e0 _ (by omega)]; exact hk1
  · rw [e1 _ _ _ _ (by omega), e1 _ _ _ _ (by omega), e0 _ (by omega)]; exact hk1
  · rw [e1 _ _ _ _ (by omega), e1 _ _ _ _ (by omega), e1 _ _ _ _ (by omega), e0 _ (by omega)]; exact hk1
  · rw [e1 _ _ _ _ (by omega), e1 _ _ _ _ (by omega), e1 _ _ _ _ (by omega), e0 _ (by omega)]; exact hk1
  · rw [e1 _ _ _ _ (by omega), e1 _ _ _ _ (by omega), e1 _ _ _ _ (by omega), e0 _ (by omega)]; exact hkl
  · rw [e1 _ _ _ _ (by omega), e1 _ _ _ _ (by omega), e1 _ _ _ _ (by omega), e0 _ (by omega)]; exact hk1
  · refine h _ _ _ _ ⟨?_, ?_, ?_, ?_, ?_, ?_, ?_, ?_, ?_, fun k hk => ⟨?_, ?_⟩⟩ ?_ ?_ ?_ ?_ (fun x k h1 h2 => ?_) (fun x k hx => ⟨?_, ?_, ?_⟩) (fun x hx => ?_) g3
    · rw [e1 _ _ _ _ (by omega), e1 _ _ _ _ (by omega), e1 _ _ _ _ (by omega), e0 _ (by omega)]; exact hk
    all_goals simp only [u1, u2, z2, zr, mnP, mnK, and_self, if_true, true_and, and_true]
    all_goals (repeat (first | rfl | rw [if_pos (by omega)] | rw [if_neg (by omega)]))
    all_goals first | (congr 1; omega) | ((repeat' split) <;> first | rfl | omega)
end NewC
