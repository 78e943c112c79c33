/-! the class: a new sentence, the texts that read -/
section News
variable {G : gG} {d : Nat} {I : sI} {J : sJ} {P : sP} {K : sK} {n : Nat} {a c l s : Nat}
theorem C_newN {F : sI → sJ → sP → sK → Nat → Prop} (ha : s + 1 = n) (hk : K s = (8, 4)) (hn : n + 3 ≤ 601024) (hS : gS K n + 120 ≤ 7293034) (h : ∀ I' J' P' K', shN P' K' s → I' s 3 = I s 3 → (∀ x k, x < s → I' x k = I x k ∧ J' x k = J x k ∧ P' x k = P x k) → (∀ x, x < n → K' x = K x) → gS K' (n + 3) = gS K n + 120 → F I' J' P' K' (n + 3)) : cqV G (d + 1) mX8_init [.ref s] I J P K n F := by
  have hk1 : (K s).1 = 8 := by rw [hk]
  have g1 : gS (u1 K n (13, 40)) (n + 1) = gS K n + 40 := gS_new K n _
  have g2 : gS (u1 (u1 K n (13, 40)) (n + 1) (13, 40)) (n + 1 + 1) = gS K n + 80 := by rw [gS_new, g1]; rfl
  have g3 : gS (u1 (u1 (u1 K n (13, 40)) (n + 1) (13, 40)) (n + 1 + 1) (13, 40)) (n + 1 + 1 + 1) = gS K n + 120 := by rw [gS_new, g2]; rfl
  subst ha
  have e1 : ∀ v : Nat × Nat, ∀ K' : sK, ∀ m, s < m → (u1 K' m v) s = K' s := fun v K' m hm => u1_a _ _ (by omega)
  refine bX8_init_0 _ ⟨by omega, by omega, ?_, by omega, by omega, ?_, by omega, by omega, ?_, ?_⟩
  · rw [e1 _ _ _ (by omega)]; exact hk1
  · rw [e1 _ _ _ (by omega), e1 _ _ _ (by omega)]; exact hk1
  · rw [e1 _ _ _ (by omega), e1 _ _ _ (by omega), e1 _ _ _ (by omega)]; exact hk1
  · refine h _ _ _ _ ⟨?_, ?_, ?_, ?_, ?_, ?_, ?_⟩ ?_ (fun x k hx => ⟨?_, ?_, ?_⟩) (fun x hx => ?_) g3
    · rw [e1 _ _ _ (by omega), e1 _ _ _ (by omega), e1 _ _ _ (by omega)]; exact hk
    all_goals simp only [u1, u2, z2, and_self, if_true, true_and, and_true]
    all_goals (repeat (first | rfl | rw [if_pos (by omega)] | rw [if_neg (by omega)]))
theorem C_newT {F : sI → sJ → sP → sK → Nat → Prop} (ha : a + 1 = n) (hk : K a = (9, 4)) (hn : n + 4 ≤ 601024) (hS : gS K n + 124 ≤ 7293034) (h : ∀ I' J' P' K', shT P' K' a l n → shN P' K' n → I' n 3 = 0 → (∀ x k, x < n → I' x k = I x k ∧ J' x k = J x k) → (∀ x k, x < a → P' x k = P x k) → (∀ x, x < n → K' x = K x) → gS K' (n + 4) = gS K n + 124 → F I' J' P' K' (n + 4)) : cqV G (d + 2) mX9_init [.ref a, .ref 2, .ref l] I J P K n F := by
  have g0 : gS (u1 K n (8, 4)) (n + 1) = gS K n + 4 := gS_new K n _
  refine bX9_init_0 _ _ ⟨by omega, by omega, C_newN rfl (u1_s _ _ _) (by omega) (by omega) (fun I' J' P' K' hN e3 q1 q2 q3 => ?_)⟩
  have ka : K' a = (9, 4) := by rw [q2 a (by omega), u1_a _ _ (by omega)]; exact hk
  have k1 : (K' a).1 = 9 := by rw [ka]
  refine ⟨k1, k1, k1, ?_⟩
  have e : ∀ x k, x ≠ a → u2 (u2 (u2 P' a 2 (some n)) a 0 (some 2)) a 1 (some l) x k = P' x k := fun x k hx => by rw [u2_a _ _ _ _ hx, u2_a _ _ _ _ hx, u2_a _ _ _ _ hx]
  refine h I' J' _ K' ⟨ka, ?_, u2_s _ _ _ _, ?_⟩ ?_ ?_ (fun x k hx => ⟨?_, ?_⟩) (fun x k hx => ?_) (fun x hx => ?_) (by rw [q3, g0])
  · rw [u2_k _ _ _ _ (by decide), u2_s]
  · rw [u2_k _ _ _ _ (by decide), u2_k _ _ _ _ (by decide), u2_s]
  · obtain ⟨h1, h2, h3, h4, h5, h6, h7⟩ := hN
    exact ⟨h1, (e _ _ (by omega)).trans h2, h3, (e _ _ (by omega)).trans h4, h5, (e _ _ (by omega)).trans h6, h7⟩
  · rw [e3, z2_s]
  · rw [(q1 x k hx).1, z2_a _ _ _ (by omega)]
  · rw [(q1 x k hx).2.1, z2_a _ _ _ (by omega)]
  · rw [e _ _ (by omega), (q1 x k (by omega)).2.2, z2_a _ _ _ (by omega)]
  · rw [q2 x (by omega), u1_a _ _ (by omega)]
theorem C_newH {F : sI → sJ → sP → sK → Nat → Prop} (ha : a + 1 = n) (hk : K a = (4, 8)) (hn : n + 6 ≤ 601024) (hS : gS K n + 50 ≤ 7293034) (h : ∀ I' J' P' K', shH P' K' a c n → shL P' K' n → nwL I' n → (∀ x k, x < n → I' x k = I x k ∧ J' x k = J x k) → (∀ x k, x < a → P' x k = P x k) → (∀ x, x < n → K' x = K x) → gS K' (n + 6) = gS K n + 50 → F I' J' P' K' (n + 6)) : cqV G (d + 2) mX4_init [.ref a, .ref 2, .ref c] I J P K n F := by
  have g0 : gS (u1 K n (5, 10)) (n + 1) = gS K n + 10 := gS_new K n _
  refine bX4_init_0 _ _ ⟨by omega, by omega, C_newL rfl (u1_s _ _ _) ⟨z2_s _ _ _ _, z2_s _ _ _ _⟩ (by omega) (by omega) (fun I' J' P' K' hL hw q1 q2 q3 => ?_)⟩
  have ka : K' a = (4, 8) := by rw [q2 a (by omega), u1_a _ _ (by omega)]; exact hk
  have k1 : (K' a).1 = 4 := by rw [ka]
  refine ⟨k1, k1, k1, ?_⟩
  have e : ∀ x k, x ≠ a → u2 (u2 (u2 P' a 2 (some n)) a 0 (some 2)) a 1 (some c) x k = P' x k := fun x k hx => by rw [u2_a _ _ _ _ hx, u2_a _ _ _ _ hx, u2_a _ _ _ _ hx]
  refine h I' J' _ K' ⟨ka, ?_, u2_s _ _ _ _, ?_⟩ (shL_of hL (fun x k h1 h2 => e x k (by omega)) (fun _ _ _ => rfl)) hw (fun x k hx => ⟨?_, ?_⟩) (fun x k hx => ?_) (fun x hx => ?_) (by rw [q3, g0])
  · rw [u2_k _ _ _ _ (by decide), u2_s]
  · rw [u2_k _ _ _ _ (by decide), u2_k _ _ _ _ (by decide), u2_s]
  · rw [(q1 x k hx).1, z2_a _ _ _ (by omega)]
  · rw [(q1 x k hx).2.1, z2_a _ _ _ (by omega)]
  · rw [e _ _ (by omega), (q1 x k (by omega)).2.2, z2_a _ _ _ (by omega)]
  · rw [q2 x (by omega), u1_a _ _ (by omega)]
end News
