/-! the class: a cellar is copied -/
theorem cpI_in (I : sI) (a b len : Nat) {k : Nat} (h : k < len) : cpI I a b 0 0 len b k = I a k := by
  unfold cpI va_cpy
  rw [if_pos rfl]
  simp [h]
theorem cpI_a (I : sI) (a : Nat) {b x : Nat} (len k : Nat) (h : x ≠ b) : cpI I a b 0 0 len x k = I x k := by
  unfold cpI
  rw [if_neg h]
section Cpy
variable {G : gG} {d : Nat} {I I0 : sI} {J J0 : sJ} {P : sP} {K : sK} {n : Nat} {hd so : Nat → Nat} {c c1 l : Nat}
theorem C_copyFrom {F : sI → sJ → sP → sK → Nat → Prop} (S0 : shC P K c) (S1 : sC P K c1 l) (hc : 34 < c) (ap : c + 24 < c1 ∨ c1 + 24 < c) (apl : l + 5 < c ∨ c + 24 < l) (C : rC I c1 hd so) (L : rL I l hd) (w : wf hd so) (h : ∀ I', rC I' c hd so → (∀ x k, ¬ (c ≤ x ∧ x ≤ c + 24) → I' x k = I x k) → F I' J (u2 P c 0 (some l)) K n) : cqV G (d + 1) mX1_copyFrom [.ref c, .ref c1] I J P K n F := by
  have k0 : (K c).1 = 1 := by rw [S0.1]
  have k1 : (K c1).1 = 1 := by rw [S1.1.1]
  have hcs := wf_casks w
  obtain ⟨C1, C2, C3, C4, C5, C6⟩ := C
  have sm : ∀ x k, x ≠ c → u2 P c 0 (some l) x k = P x k := fun x k hx => u2_a _ _ _ _ hx
  have S0' : shC (u2 P c 0 (some l)) K c := shC_0 S0 _ (fun k _ => by omega)
  have S1' : shC (u2 P c 0 (some l)) K c1 := shC_of S1.1 (fun x k h1 h2 _ => sm x k (by omega)) (fun _ _ _ => rfl)
  have hL' : shL (u2 P c 0 (some l)) K l := shL_of S1.2.2.1 (fun x k h1 h2 => sm x k (by omega)) (fun _ _ _ => rfl)
  refine bX1_copyFrom_0 _ _ S0 S1.1 ⟨l, S1.2.1, S1.2.2.1, k1, k0, k1, k0, k1, k0, ?_⟩
  have lp : ∀ (f j : Nat) (I2 : sI), j + f = hd 1 → I2 c 1 = nI (so 0) → I2 c 2 = nI (so 1) → I2 c 3 = nI (so 2) → (∀ k v, k < j → v < 40 → I2 (c + 2 + k) v = nI (wn so k v)) → (∀ x k, ¬ (c ≤ x ∧ x ≤ c + 24) → I2 x k = I x k) → Ok G (d + 1) mX1_copyFrom 34 [some (.ref c), some (.ref c1), some (.int (nI j))] [] I2 J (u2 P c 0 (some l)) K n (qV F) := by
    intro f
    induction f with
    | zero =>
      intro j I2 hj e1 e2 e3 e4 fr
      refine bX1_copyFrom_34 _ _ _ S0' S1' ⟨l, u2_s _ _ _ _, hL', ?_⟩
      rw [fr l 1 (by omega), L.1 1 (by decide)]
      refine br_t (nI_le (by omega) (by omega)) ⟨by omega, by omega, by omega, h _ ⟨?_, ?_, ?_, fun k v hk hv => ?_, fun k hk => ⟨?_, ?_⟩, fun v hv => ?_⟩ (fun x k hx => ?_)⟩
      · rw [cpI_a _ _ _ _ (by omega), cpI_a _ _ _ _ (by omega), cpI_a _ _ _ _ (by omega)]; exact e1
      · rw [cpI_a _ _ _ _ (by omega), cpI_a _ _ _ _ (by omega), cpI_a _ _ _ _ (by omega)]; exact e2
      · rw [cpI_a _ _ _ _ (by omega), cpI_a _ _ _ _ (by omega), cpI_a _ _ _ _ (by omega)]; exact e3
      · rw [cpI_a _ _ _ _ (by omega), cpI_a _ _ _ _ (by omega), cpI_a _ _ _ _ (by omega)]; exact e4 k v (by omega) hv
      · rw [cpI_a _ _ _ _ (by omega), cpI_a _ _ _ _ (by omega), cpI_in _ _ _ _ (by omega), fr _ _ (by omega)]; exact (C5 k hk).1
      · rw [cpI_a _ _ _ _ (by omega), cpI_in _ _ _ _ (by omega), cpI_a _ _ _ _ (by omega), fr _ _ (by omega)]; exact (C5 k hk).2
      · rw [cpI_in _ _ _ _ hv, cpI_a _ _ _ _ (by omega), cpI_a _ _ _ _ (by omega), fr _ _ (by omega)]; exact C6 v hv
      · rw [cpI_a _ _ _ _ (by omega), cpI_a _ _ _ _ (by omega), cpI_a _ _ _ _ (by omega)]; exact fr x k hx
    | succ f ih =>
      intro j I2 hj e1 e2 e3 e4 fr
      refine bX1_copyFrom_34 _ _ _ S0' S1' ⟨l, u2_s _ _ _ _, hL', ?_⟩
      rw [fr l 1 (by omega), L.1 1 (by decide)]
      refine br_f (nI_ge (by omega) (by omega)) ?_
      rw [nI_ck (show j < 2147483648 by omega), nI_1]
      refine ⟨nI_inN (by omega) (by decide), nI_inN (by omega) (by decide), by omega, ih (j + 1) _ (by omega) ?_ ?_ ?_ (fun k v hk hv => ?_) (fun x k hx => ?_)⟩
      · rw [cpI_a _ _ _ _ (by omega)]; exact e1
      · rw [cpI_a _ _ _ _ (by omega)]; exact e2
      · rw [cpI_a _ _ _ _ (by omega)]; exact e3
      · by_cases q : k = j
        · subst q
          rw [cpI_in _ _ _ _ hv, fr _ _ (by omega)]; exact C4 k v (by omega) hv
        · rw [cpI_a _ _ _ _ (by omega)]; exact e4 k v (by omega) hv
      · rw [cpI_a _ _ _ _ (by omega)]; exact fr x k hx
  simp only [u2_a _ _ _ _ (show c1 ≠ c by omega), C1, C2, C3]
  refine lp (hd 1) 0 _ (by omega) ?_ ?_ (u2_s _ _ _ _) (fun k v hk _ => absurd hk (Nat.not_lt_zero k)) (fun x k hx => ?_)
  · rw [u2_k _ _ _ _ (by decide), u2_k _ _ _ _ (by decide), u2_s]
  · rw [u2_k _ _ _ _ (by decide), u2_s]
  · rw [u2_a _ _ _ _ (by omega), u2_a _ _ _ _ (by omega), u2_a _ _ _ _ (by omega)]
end Cpy
