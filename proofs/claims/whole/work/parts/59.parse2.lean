/-! the reference: every token is well; names, numbers, ends -/
def alB (tp : Nat → Nat) (p : Nat) : Bool := isL (tp p) || isD (tp p)
theorem rln_ok (tp : Nat → Nat) (sz : Nat) : ∀ f p, p ≤ sz → p ≤ rln tp sz f p ∧ rln tp sz f p ≤ sz ∧ ∀ i, p ≤ i → i < rln tp sz f p → alB tp i = true
  | 0, p, h => ⟨Nat.le_refl _, h, fun i h1 h2 => by simp only [rln] at h2; omega⟩
  | f + 1, p, h => by
    simp only [rln]
    split
    · rename_i g
      have ih := rln_ok tp sz f (p + 1) (by omega)
      refine ⟨by omega, ih.2.1, fun i h1 h2 => ?_⟩
      by_cases q : i = p
      · rw [q]; exact g.2
      · exact ih.2.2 i (by omega) h2
    · exact ⟨Nat.le_refl _, h, fun i h1 h2 => by omega⟩
theorem lets_ok {tp : Nat → Nat} {q m : Nat} (h : ∀ i, i < m → isL (tp (q + i)) = true) : ∀ x, x ∈ lets tp q m → 1 ≤ x ∧ x ≤ 26 := by
  induction m with
  | zero => intro x hx; cases hx
  | succ m ih =>
    intro x hx
    simp only [lets, List.mem_append, List.mem_singleton] at hx
    rcases hx with hx | hx
    · exact ih (fun i hi => h i (by omega)) x hx
    · have := h m (by omega)
      simp only [isL, Bool.and_eq_true, decide_eq_true_eq] at this
      omega
theorem dval_lt {tp : Nat → Nat} {q m : Nat} (h : ∀ i, i < m → isD (tp (q + i)) = true) : dval tp q m < 10 ^ m := by
  induction m with
  | zero => exact Nat.one_pos
  | succ m ih =>
    have h1 := ih (fun i hi => h i (by omega))
    have h2 := h m (by omega)
    simp only [isD, Bool.and_eq_true, decide_eq_true_eq] at h2
    simp only [dval]
    rw [Nat.pow_succ]
    omega
theorem tok_ok {tp : Nat → Nat} {sz lm p : Nat} (hs : sz ≤ 940) (hl : lm ≤ 1000) (hp : p ≤ sz) (ht : ∀ j, j < sz → tp j ≤ 255) : okT (tok tp sz lm p) sz := by
  have hk := skp_le tp sz (sz - p) p hp
  unfold tok
  obtain ⟨q, eq⟩ : ∃ q, skp tp sz (sz - p) p = q := ⟨_, rfl⟩
  rw [eq] at hk ⊢
  unfold tokQ
  split
  · exact ⟨(show (1 : Nat) ≤ 4 by decide), hk.1, hl, fun a => (by cases a), (show (0 : Nat) ≤ 999 by decide)⟩
  split
  · exact ⟨(show (0 : Nat) ≤ 4 by decide), hk.1, by show q ≤ 1000; omega, fun a => (by cases a), (show (0 : Nat) ≤ 999 by decide)⟩
  split
  · have := ht q (by omega)
    refine ⟨?_, by show q + 1 ≤ sz; omega, by show q ≤ 1000; omega, fun a => ?_, by show tp q ≤ 999; omega⟩
    · show (if sgn (tp q) then 4 else 1) ≤ 4
      split <;> decide
    · exfalso
      have a : (if sgn (tp q) then 4 else 1) = 2 := a
      split at a <;> cases a
  · rename_i n1 n2 n3
    have al : alB tp q = true := by
      unfold alB
      cases e : isL (tp q) <;> cases e2 : isD (tp q)
      · exact absurd ⟨e, e2⟩ n3
      all_goals rfl
    have hr := rln_ok tp sz (sz - q) q hk.1
    have hgt : q < rln tp sz (sz - q) q := by
      have e : sz - q = (sz - q - 1) + 1 := by omega
      rw [e]
      simp only [rln]
      rw [if_pos ⟨by omega, al⟩]
      have := (rln_ok tp sz (sz - q - 1) (q + 1) (by omega)).1
      omega
    obtain ⟨e, ee⟩ : ∃ e, rln tp sz (sz - q) q = e := ⟨_, rfl⟩
    rw [ee] at hr hgt ⊢
    unfold tokR
    by_cases n4 : allB (sameB tp q) (e - q) = false ∨ (if isL (tp q) = true then 7 else 3) < e - q
    · rw [if_pos n4]
      exact ⟨(show (1 : Nat) ≤ 4 by decide), hr.2.1, by show q ≤ 1000; omega, fun a => (by cases a), (show (0 : Nat) ≤ 999 by decide)⟩
    · rw [if_neg n4]
      have g : allB (sameB tp q) (e - q) = true := by
        cases g0 : allB (sameB tp q) (e - q)
        · exact absurd (Or.inl g0) n4
        · rfl
      have sm' := allB_t.mp g
      have hlen : ¬ (if isL (tp q) = true then 7 else 3) < e - q := fun x => n4 (Or.inr x)
      by_cases lq : isL (tp q) = true
      · rw [if_pos lq] at hlen ⊢
        refine ⟨(show (2 : Nat) ≤ 4 by decide), hr.2.1, by show q ≤ 1000; omega, fun _ => ⟨?_, ?_, ?_⟩, (show (0 : Nat) ≤ 999 by decide)⟩
        · intro z
          have : (lets tp q (e - q)).length = 0 := by rw [show lets tp q (e - q) = [] from z]; rfl
          rw [lets_len] at this
          omega
        · show (lets tp q (e - q)).length ≤ 7
          rw [lets_len]; omega
        · refine lets_ok (fun i hi => ?_)
          have := sm' i hi
          simp only [sameB, beq_iff_eq] at this
          rw [this]; exact lq
      · rw [if_neg lq] at hlen ⊢
        refine ⟨(show (3 : Nat) ≤ 4 by decide), hr.2.1, by show q ≤ 1000; omega, fun a => (by cases a), ?_⟩
        have hd : ∀ i, i < e - q → isD (tp (q + i)) = true := fun i hi => by
          have h1 := sm' i hi
          simp only [sameB, beq_iff_eq] at h1
          have h2 := hr.2.2 (q + i) (by omega) (by omega)
          unfold alB at h2
          rw [h1] at h2
          have h3 : isL (tp q) = false := by simpa using lq
          rw [h3, Bool.false_or] at h2
          exact h2
        have h4 := dval_lt hd
        have h5 : (10 : Nat) ^ (e - q) ≤ 10 ^ 3 := Nat.pow_le_pow_right (by decide) (by omega)
        show dval tp q (e - q) ≤ 999
        omega
