theorem bX5_init_1 {G : gG} {d : Nat} {I : sI} {J : sJ} {P : sP} {K : sK} {n : Nat} {F : sI → sJ → sP → sK → Nat → Prop} (a0 : Nat) (h : (K a0).1 = 5 ∧ (K a0).1 = 5 ∧ (K a0).1 = 5 ∧ n + 1 ≤ 601024 ∧ gS K n + 5 ≤ 7293034 ∧ ((u1 K n (14, 5)) a0).1 = 5 ∧ (n + 1) + 1 ≤ 601024 ∧ gS (u1 K n (14, 5)) (n + 1) + 5 ≤ 7293034 ∧ ((u1 (u1 K n (14, 5)) (n + 1) (13, 5)) a0).1 = 5 ∧ ((n + 1) + 1) + 1 ≤ 601024 ∧ gS (u1 (u1 K n (14, 5)) (n + 1) (13, 5)) ((n + 1) + 1) + 5 ≤ 7293034 ∧ ((u1 (u1 (u1 K n (14, 5)) (n + 1) (13, 5)) ((n + 1) + 1) (13, 5)) a0).1 = 5 ∧ (((n + 1) + 1) + 1) + 1 ≤ 601024 ∧ gS (u1 (u1 (u1 K n (14, 5)) (n + 1) (13, 5)) ((n + 1) + 1) (13, 5)) (((n + 1) + 1) + 1) + 5 ≤ 7293034 ∧ ((u1 (u1 (u1 (u1 K n (14, 5)) (n + 1) (13, 5)) ((n + 1) + 1) (13, 5)) (((n + 1) + 1) + 1) (13, 5)) a0).1 = 5 ∧ ((((n + 1) + 1) + 1) + 1) + 1 ≤ 601024 ∧ gS (u1 (u1 (u1 (u1 K n (14, 5)) (n + 1) (13, 5)) ((n + 1) + 1) (13, 5)) (((n + 1) + 1) + 1) (13, 5)) ((((n + 1) + 1) + 1) + 1) + 20 ≤ 7293034 ∧ ((u1 (u1 (u1 (u1 (u1 K n (14, 5)) (n + 1) (13, 5)) ((n + 1) + 1) (13, 5)) (((n + 1) + 1) + 1) (13, 5)) ((((n + 1) + 1) + 1) + 1) (13, 20)) a0).1 = 5 ∧ F (z2 (z2 (z2 (z2 (z2 (u2 (u2 (u2 I a0 2 2) a0 3 400) a0 4 10) n 0) (n + 1) 0) ((n + 1) + 1) 0) (((n + 1) + 1) + 1) 0) ((((n + 1) + 1) + 1) + 1) 0) (z2 (z2 (z2 (z2 (z2 J n 0) (n + 1) 0) ((n + 1) + 1) 0) (((n + 1) + 1) + 1) 0) ((((n + 1) + 1) + 1) + 1) 0) (u2 (z2 (u2 (z2 (u2 (z2 (u2 (z2 (u2 (z2 P n none) a0 5 (some n)) (n + 1) none) a0 6 (some (n + 1))) ((n + 1) + 1) none) a0 7 (some ((n + 1) + 1))) (((n + 1) + 1) + 1) none) a0 8 (some (((n + 1) + 1) + 1))) ((((n + 1) + 1) + 1) + 1) none) a0 9 (some ((((n + 1) + 1) + 1) + 1))) (u1 (u1 (u1 (u1 (u1 K n (14, 5)) (n + 1) (13, 5)) ((n + 1) + 1) (13, 5)) (((n + 1) + 1) + 1) (13, 5)) ((((n + 1) + 1) + 1) + 1) (13, 20)) (((((n + 1) + 1) + 1) + 1) + 1)) : Ok G (d + 1) mX5_init 0 [some (.ref a0)] [] I J P K n (qV F) := (ok_aload_n dX5_init_0 rfl (ok_objInit dX5_init_1 (tbm 221 (by decide +kernel) rfl) (Nat.le_of_ble_eq_true rfl) (ok_aload_n dX5_init_4 rfl (ok_iconstV 2 dX5_init_5 rfl (ok_putI dX5_init_6 fi_X5_9 (Or.inl rfl) (Or.inl rfl) ⟨h.1, (ok_aload_n dX5_init_9 rfl (ok_sipushV 400 dX5_init_10 rfl (ok_putI dX5_init_13 fi_X5_15 (Or.inl rfl) (Or.inl rfl) ⟨h.2.1, (ok_aload_n dX5_init_16 rfl (ok_bipushV 10 dX5_init_17 rfl (ok_putI dX5_init_19 fi_X5_18 (Or.inl rfl) (Or.inl rfl) ⟨h.2.2.1, (ok_aload_n dX5_init_22 rfl (ok_iconstV 5 dX5_init_23 rfl (ok_newaJ dX5_init_24 5 (tbm 286 (by decide +kernel) rfl) (by decide) ⟨h.2.2.2.1, h.2.2.2.2.1, (ok_putP dX5_init_26 fi_X5_21 (Or.inr ⟨rfl, rfl⟩) rfl ⟨h.2.2.2.2.2.1, (ok_aload_n dX5_init_29 rfl (ok_iconstV 5 dX5_init_30 rfl (ok_newaI dX5_init_31 5 (tbm 88 (by decide +kernel) rfl) (by decide) ⟨h.2.2.2.2.2.2.1, h.2.2.2.2.2.2.2.1, (ok_putP dX5_init_33 fi_X5_25 (Or.inr ⟨rfl, rfl⟩) rfl ⟨h.2.2.2.2.2.2.2.2.1, (ok_aload_n dX5_init_36 rfl (ok_iconstV 5 dX5_init_37 rfl (ok_newaI dX5_init_38 5 (tbm 88 (by decide +kernel) rfl) (by decide) ⟨h.2.2.2.2.2.2.2.2.2.1, h.2.2.2.2.2.2.2.2.2.2.1, (ok_putP dX5_init_40 fi_X5_29 (Or.inr ⟨rfl, rfl⟩) rfl ⟨h.2.2.2.2.2.2.2.2.2.2.2.1, (ok_aload_n dX5_init_43 rfl (ok_iconstV 5 dX5_init_44 rfl (ok_newaI dX5_init_45 5 (tbm 88 (by decide +kernel) rfl) (by decide) ⟨h.2.2.2.2.2.2.2.2.2.2.2.2.1, h.2.2.2.2.2.2.2.2.2.2.2.2.2.1, (ok_putP dX5_init_47 fi_X5_32 (Or.inr ⟨rfl, rfl⟩) rfl ⟨h.2.2.2.2.2.2.2.2.2.2.2.2.2.2.1, (ok_aload_n dX5_init_50 rfl (ok_bipushV 20 dX5_init_51 rfl (ok_newaI dX5_init_53 20 (tbm 88 (by decide +kernel) rfl) (by decide) ⟨h.2.2.2.2.2.2.2.2.2.2.2.2.2.2.2.1, h.2.2.2.2.2.2.2.2.2.2.2.2.2.2.2.2.1, (ok_putP dX5_init_55 fi_X5_35 (Or.inr ⟨rfl, rfl⟩) rfl ⟨h.2.2.2.2.2.2.2.2.2.2.2.2.2.2.2.2.2.1, (ok_vret dX5_init_58 rfl ⟨rfl, h.2.2.2.2.2.2.2.2.2.2.2.2.2.2.2.2.2.2⟩)⟩)⟩)))⟩)⟩)))⟩)⟩)))⟩)⟩)))⟩)⟩)))⟩)))⟩)))⟩)))))
/-! the class: a cellar is cleared, a layout is made, a house is read -/
section Hs10
variable {G : gG} {d : Nat} {I I0 : sI} {J J0 : sJ} {P : sP} {K : sK} {n : Nat} {sz lm : Nat} {tp : Nat → Nat} {t : tokT} {H : hS} {a c l : Nat}
theorem C_clear25 {F : sI → sJ → sP → sK → Nat → Prop} (hC : shC P K c) (h : ∀ I', (∀ z k, ¬ (c + 2 ≤ z ∧ z ≤ c + 24) → I' z k = I0 z k) → (∀ k v, k < 20 → v < 40 → I' (c + 2 + k) v = 0) → (∀ k, k < 20 → I' (c + 22) k = 0 ∧ I' (c + 23) k = 0) → (∀ v, v < 40 → I' (c + 24) v = 0) → F I' J P K n) : ∀ (f j : Nat) (I : sI), j + f = 20 → (∀ z k, ¬ (c + 2 ≤ z ∧ z ≤ c + 24) → I z k = I0 z k) → (∀ k v, k < j → v < 40 → I (c + 2 + k) v = 0) → Ok G (d + 1) mX1_clear 25 [some (.ref c), none, some (.int (nI j))] [] I J P K n (qV F) := by
  have K22 := shC_A5 hC
  have K23 := shC_A6 hC
  have K24 := hC.2.2.2.2.2.2.2.2.1
  have KR := hC.2.2.2.2.2.2.2.2.2
  intro f
  induction f with
  | zero =>
    intro j I hj a1 a2
    refine bX1_clear_25 _ _ hC (br_t (nI_le (a := 20) (by omega) (by omega)) ?_)
    refine C_fill 0 K22 (by decide) (C_fill 0 K23 (by decide) (C_fill 0 K24 (by decide) (h _ (fun z k hz => ?_) (fun k v hk hv => ?_) (fun k hk => ⟨?_, ?_⟩) (fun v hv => ?_))))
    · rw [wr_a _ _ _ _ _ (by omega), wr_a _ _ _ _ _ (by omega), wr_a _ _ _ _ _ (by omega)]; exact a1 z k hz
    · rw [wr_a _ _ _ _ _ (by omega), wr_a _ _ _ _ _ (by omega), wr_a _ _ _ _ _ (by omega)]; exact a2 k v (by omega) hv
    · rw [wr_a _ _ _ _ _ (by omega), wr_a _ _ _ _ _ (by omega)]
      have := wr_in I (c + 22) 0 20 (fun _ => (0 : Int32)) hk
      rw [Nat.zero_add] at this
      exact this
    · rw [wr_a _ _ _ _ _ (by omega)]
      have := wr_in (wr I (c + 22) 0 20 (fun _ => (0 : Int32))) (c + 23) 0 20 (fun _ => (0 : Int32)) hk
      rw [Nat.zero_add] at this
      exact this
    · have := wr_in (wr (wr I (c + 22) 0 20 (fun _ => (0 : Int32))) (c + 23) 0 20 (fun _ => (0 : Int32))) (c + 24) 0 40 (fun _ => (0 : Int32)) hv
      rw [Nat.zero_add] at this
      exact this
  | succ f ih =>
    intro j I hj a1 a2
    refine bX1_clear_25 _ _ hC (br_f (nI_ge (b := 20) (by omega) (by decide)) ⟨nI_inN (by omega) (by decide), ?_⟩)
    rw [nI_ck (show j < 2147483648 by omega), nI_1]
    refine C_fill 0 (KR j (by omega)).2 (by decide) (ih (j + 1) _ (by omega) (fun z k hz => ?_) (fun k v hk hv => ?_))
    · rw [wr_a _ _ _ _ _ (by omega)]; exact a1 z k hz
    · by_cases e : k = j
      · subst e
        have := wr_in I (c + 2 + k) 0 40 (fun _ => (0 : Int32)) hv
        rw [Nat.zero_add] at this
        exact this
      · rw [wr_a _ _ _ _ _ (by omega)]; exact a2 k v (by omega) hv
theorem shC_0 (hC : shC P K c) (v : Option Nat) (hx : ∀ k, k < 25 → c + k ≠ c ∨ k = 0) : shC (u2 P c 0 v) K c := by
  obtain ⟨h1, h2, h3, h4, h5, h6, h7, h8, h9, h10⟩ := hC
  exact ⟨h1, (u2_k _ _ _ _ (by decide)).trans h2, h3, (u2_k _ _ _ _ (by decide)).trans h4, h5, (u2_k _ _ _ _ (by decide)).trans h6, h7, (u2_k _ _ _ _ (by decide)).trans h8, h9, fun k hk => ⟨(u2_a _ _ _ _ (by omega)).trans (h10 k hk).1, (h10 k hk).2⟩⟩
theorem C_clear {F : sI → sJ → sP → sK → Nat → Prop} (hC : shC P K c) (hl : (K l).1 = 5) (hlc : l ≠ c) (h : ∀ I', (∀ z k, ¬ (c ≤ z ∧ z ≤ c + 24) → I' z k = I z k) → I' c 2 = 0 → I' c 3 = 0 → (∀ k v, k < 20 → v < 40 → I' (c + 2 + k) v = 0) → (∀ k, k < 20 → I' (c + 22) k = 0 ∧ I' (c + 23) k = 0) → (∀ v, v < 40 → I' (c + 24) v = 0) → F I' J (u2 P c 0 (some l)) K n) : cqV G (d + 1) mX1_clear [.ref c, .ref l] I J P K n F := by
  have hk : (K c).1 = 1 := by rw [hC.1]
  refine bX1_clear_0 _ _ hC ⟨hl, hk, hk, hk, ?_⟩
  refine C_clear25 (I0 := u2 (u2 (u2 I c 1 (I l 4)) c 2 0) c 3 0) (shC_0 hC _ (fun k _ => by omega)) (fun I' q1 q2 q3 q4 => h I' (fun z k hz => ?_) ?_ ?_ q2 q3 q4) 20 0 _ (by omega) (fun _ _ _ => rfl) (fun k v hk _ => absurd hk (Nat.not_lt_zero k))
  · rw [q1 z k (by omega), u2_a _ _ _ _ (by omega), u2_a _ _ _ _ (by omega), u2_a _ _ _ _ (by omega)]
  · rw [q1 c 2 (by omega), u2_k _ _ _ _ (by decide), u2_s]
  · rw [q1 c 3 (by omega), u2_s]
/-- a layout that is new -/
def nwL (I : sI) (l : Nat) : Prop := I l 0 = 0 ∧ I l 1 = 0 ∧ I l 2 = 2 ∧ I l 3 = 400 ∧ I l 4 = 10
theorem C_newL {F : sI → sJ → sP → sK → Nat → Prop} (ha : l + 1 = n) (hk : K l = (5, 10)) (h0 : I l 0 = 0 ∧ I l 1 = 0) (hn : n + 5 ≤ 601024) (hS : gS K n + 40 ≤ 7293034) (h : ∀ I' J' P' K', shL P' K' l → nwL I' l → (∀ x k, x < l → I' x k = I x k ∧ J' x k = J x k ∧ P' x k = P x k) → (∀ x, x < n → K' x = K x) → gS K' (n + 5) = gS K n + 40 → F I' J' P' K' (n + 5)) : cqV G (d + 1) mX5_init [.ref l] I J P K n F := by
  have hk1 : (K l).1 = 5 := by rw [hk]
  have g1 : gS (u1 K n (14, 5)) (n + 1) = gS K n + 5 := gS_new K n _
  have g2 : gS (u1 (u1 K n (14, 5)) (n + 1) (13, 5)) (n + 1 + 1) = gS K n + 10 := by rw [gS_new, g1]; rfl
  have g3 : gS (u1 (u1 (u1 K n (14, 5)) (n + 1) (13, 5)) (n + 1 + 1) (13, 5)) (n + 1 + 1 + 1) = gS K n + 15 := by rw [gS_new, g2]; rfl
  have g4 : gS (u1 (u1 (u1 (u1 K n (14, 5)) (n + 1) (13, 5)) (n + 1 + 1) (13, 5)) (n + 1 + 1 + 1) (13, 5)) (n + 1 + 1 + 1 + 1) = gS K n + 20 := by rw [gS_new, g3]; rfl
  have g5 : gS (u1 (u1 (u1 (u1 (u1 K n (14, 5)) (n + 1) (13, 5)) (n + 1 + 1) (13, 5)) (n + 1 + 1 + 1) (13, 5)) (n + 1 + 1 + 1 + 1) (13, 20)) (n + 1 + 1 + 1 + 1 + 1) = gS K n + 40 := by rw [gS_new, g4]; rfl
  subst ha
  have e1 : ∀ v : Nat × Nat, ∀ K' : sK, ∀ m, l < m → (u1 K' m v) l = K' l := fun v K' m hm => u1_a _ _ (by omega)
  refine bX5_init_1 _ ⟨hk1, hk1, hk1, by omega, by omega, ?_, by omega, by omega, ?_, by omega, by omega, ?_, by omega, by omega, ?_, by omega, by omega, ?_, ?_⟩
  · rw [e1 _ _ _ (by omega)]; exact hk1
  · rw [e1 _ _ _ (by omega), e1 _ _ _ (by omega)]; exact hk1
  · rw [e1 _ _ _ (by omega), e1 _ _ _ (by omega), e1 _ _ _ (by omega)]; exact hk1
  · rw [e1 _ _ _ (by omega), e1 _ _ _ (by omega), e1 _ _ _ (by omega), e1 _ _ _ (by omega)]; exact hk1
  · rw [e1 _ _ _ (by omega), e1 _ _ _ (by omega), e1 _ _ _ (by omega), e1 _ _ _ (by omega), e1 _ _ _ (by omega)]; exact hk1
  · refine h _ _ _ _ ⟨?_, ?_, ?_, ?_, ?_, ?_, ?_, ?_, ?_, ?_, ?_⟩ ⟨?_, ?_, ?_, ?_, ?_⟩ (fun x k hx => ⟨?_, ?_, ?_⟩) (fun x hx => ?_) g5
    · rw [e1 _ _ _ (by omega), e1 _ _ _ (by omega), e1 _ _ _ (by omega), e1 _ _ _ (by omega), e1 _ _ _ (by omega)]; exact hk
    all_goals simp only [u1, u2, z2]
    all_goals first
      | (repeat (first | rfl | rw [if_pos (by omega)] | rw [if_neg (by omega)]))
      | skip
    · exact h0.1
    · exact h0.2
end Hs10
