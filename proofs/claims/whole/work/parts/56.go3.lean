/-! the reference: go from its beginning; bad, begin, numbers, ends -/
theorem skp_le (tp : Nat → Nat) (sz : Nat) : ∀ f p, p ≤ sz → skp tp sz f p ≤ sz ∧ p ≤ skp tp sz f p
  | 0, p, h => ⟨h, Nat.le_refl _⟩
  | f + 1, p, h => by
    simp only [skp]
    split
    · rename_i g
      have := skp_le tp sz f (p + 1) (by omega)
      omega
    · exact ⟨h, Nat.le_refl _⟩
section ModGo3
variable {G : gG} {d : Nat} {I : sI} {J : sJ} {P : sP} {K : sK} {n : Nat} {F : Int32 → sI → sJ → Prop} {FV : sI → sJ → Prop} {sz lm : Nat} {tp : Nat → Nat}
theorem M_go96 {q : Nat} (hM : shM P K) (S : rS I sz lm tp) (h5 : I 91 5 = nI q) (h6 : I 91 6 = nI q) (hq : q ≤ sz) (hno : ¬ (lm < sz ∧ lm ≤ q)) (h : ∀ I' J', rTok I' J' (tokQ tp sz lm q) → frGo I I' J J' → FV I' J') : Ok G (d + 1) mX12_go 96 [some (.ref 91), none, none, none, none] [] I J P K n (kV P K n FV) := by
  have hsz := S.2.2.1
  unfold tokQ at h
  rw [if_neg hno] at h
  refine bX12_go_96 hM ?_
  rw [h5, S.1]
  by_cases q1 : sz ≤ q
  · rw [if_pos q1] at h
    refine br_f (nI_nlt q1 (by omega)) (h _ J ⟨u2_s _ _ _ _, ?_, ?_, fun a => (by cases a), fun a => (by cases a), fun a => (by cases a)⟩ (frGo_u _ _ _ (by omega)))
    · rw [u2_k _ _ _ _ (by decide)]; exact h6
    · rw [u2_k _ _ _ _ (by decide)]; exact h5
  rw [if_neg q1] at h
  have ht := S.2.2.2.2 q (by omega)
  refine br_t (nI_lt (by omega) (by omega)) ?_
  rw [nI_ck (by omega), ht.1]
  -- a run
  have run : (isL (tp q) || isD (tp q)) = true → Ok G (d + 1) mX12_go 198 [some (.ref 91), some (.int (nI (tp q))), none, none, none] [] I J P K n (kV P K n FV) := by
    intro al
    rw [if_neg (fun e => by rw [e.1, e.2] at al; cases al)] at h
    refine bX12_go_198 hM _ (M_isLetter (by omega) ?_)
    have key := M_go215 (G := G) (d := d) (n := n) (FV := FV) (sz := sz) (lm := lm) (tp := tp) (q := q) (isL (tp q)) rfl hM (sz - q) q (u2 I 91 8 0) (u2 J 91 12 0) rfl (Nat.le_refl _) (by omega) (fun _ => ⟨by omega, al⟩) (rS_fr S (frGo_u I J _ (by omega))) ⟨?_, ?_, fun _ _ _ => ?_, fun _ _ _ => ?_⟩ (fun I' J' t f => h I' J' t (frGo_tr (frGo_tr (frGo_u I J 0 (k := 8) (by omega)) (frGo_J _ J 0)) f))
    · rw [Nat.sub_self] at key
      exact key
    · rw [u2_k _ _ _ _ (by decide)]; exact h5
    · rw [u2_k _ _ _ _ (by decide)]; exact h6
    · rw [u2_s, Nat.sub_self]; rfl
    · rw [u2_s, Nat.sub_self]; rfl
  refine ⟨nI_inN (by omega) (by decide), M_isLetter (by omega) (b01n (fun l => M_isDigit (by omega) (b01n (fun l2 => ?_) (fun l2 => run (by rw [l2, Bool.or_true])))) (fun l => run (by rw [l, Bool.true_or])))⟩
  rw [if_pos ⟨l, l2⟩] at h
  rw [h5, nI_1]
  have yes : ∀ y : Nat, y = 59 ∨ y = 60 ∨ y = 61 ∨ y = 62 ∨ y = 40 ∨ y = 41 → nI (tp q) = nI y → FV (u2 (u2 (u2 I 91 7 4) 91 9 (nI (tp q))) 91 5 (nI (q + 1))) J := by
    intro y hy e
    have ey : tp q = y := (nI_eq (by omega) (by omega)).mp e
    have es : sgn (tp q) = true := by rw [ey]; rcases hy with r | r | r | r | r | r <;> subst r <;> rfl
    rw [es, if_pos rfl] at h
    refine h _ J ⟨?_, ?_, u2_s _ _ _ _, fun _ => ?_, fun a => (by cases a), fun a => (by cases a)⟩ (frGo_tr (frGo_u _ _ _ (by omega)) (frGo_tr (frGo_u _ _ _ (by omega)) (frGo_u _ _ _ (by omega))))
    · rw [u2_k _ _ _ _ (by decide), u2_k _ _ _ _ (by decide), u2_s]; rfl
    · rw [u2_k _ _ _ _ (by decide), u2_k _ _ _ _ (by decide), u2_k _ _ _ _ (by decide)]; exact h6
    · rw [u2_k _ _ _ _ (by decide), u2_s]
  refine ⟨yes 59 (by omega), fun n1 => ⟨yes 60 (by omega), fun n2 => ⟨yes 61 (by omega), fun n3 => ⟨yes 62 (by omega), fun n4 => ⟨yes 40 (by omega), fun n5 => ⟨yes 41 (by omega), fun n6 => ?_⟩⟩⟩⟩⟩⟩
  have es : sgn (tp q) = false := by
    have w : ∀ y : Nat, ¬ nI (tp q) = nI y → decide (tp q = y) = false := fun y g => decide_eq_false (fun e => g (by rw [e]))
    unfold sgn
    rw [w 59 n1, w 60 n2, w 61 n3, w 62 n4, w 40 n5, w 41 n6]; rfl
  rw [es, if_neg (by decide)] at h
  refine h _ J ⟨?_, ?_, u2_s _ _ _ _, fun a => (by cases a), fun a => (by cases a), fun a => (by cases a)⟩ (frGo_tr (frGo_u _ _ _ (by omega)) (frGo_tr (frGo_u _ _ _ (by omega)) (frGo_u _ _ _ (by omega))))
  · rw [u2_k _ _ _ _ (by decide), u2_k _ _ _ _ (by decide), u2_s]; rfl
  · rw [u2_k _ _ _ _ (by decide), u2_k _ _ _ _ (by decide), u2_k _ _ _ _ (by decide)]; exact h6
theorem M_go52 {q : Nat} (hM : shM P K) (S : rS I sz lm tp) (h5 : I 91 5 = nI q) (hq : q ≤ sz) (h : ∀ I' J', rTok I' J' (tokQ tp sz lm q) → frGo I I' J J' → FV I' J') : Ok G (d + 1) mX12_go 52 [some (.ref 91), none, none, none, none] [] I J P K n (kV P K n FV) := by
  have hsz := S.2.2.1
  have hlm := S.2.2.2.1
  have f6 : frGo I (u2 I 91 6 (nI q)) J J := frGo_u _ _ _ (by omega)
  have go : ¬ (lm < sz ∧ lm ≤ q) → Ok G (d + 1) mX12_go 96 [some (.ref 91), none, none, none, none] [] (u2 I 91 6 (nI q)) J P K n (kV P K n FV) := fun hno =>
    M_go96 hM (rS_fr S f6) ((u2_k _ _ _ _ (by decide)).trans h5) (u2_s _ _ _ _) hq hno (fun I' J' t f => h I' J' t (frGo_tr f6 f))
  refine bX12_go_52 hM ?_
  rw [S.1, S.2.1, h5]
  by_cases q1 : sz ≤ lm
  · exact br_t (nI_le q1 (by omega)) (go (by omega))
  · refine br_f (nI_ge (by omega) (by omega)) ?_
    by_cases q2 : q < lm
    · exact br_t (nI_lt q2 (by omega)) (go (by omega))
    · have et : tokQ tp sz lm q = (1, lm, q, 0, []) := by unfold tokQ; rw [if_pos ⟨by omega, by omega⟩]
      rw [et] at h
      refine br_f (nI_nlt (by omega) (by omega)) (h _ J ⟨u2_s _ _ _ _, ?_, ?_, fun a => (by cases a), fun a => (by cases a), fun a => (by cases a)⟩ (frGo_tr (frGo_u _ _ _ (by omega)) (frGo_tr (frGo_u _ _ _ (by omega)) (frGo_u _ _ _ (by omega)))))
      · rw [u2_k _ _ _ _ (by decide), u2_s]
      · rw [u2_k _ _ _ _ (by decide), u2_k _ _ _ _ (by decide), u2_k _ _ _ _ (by decide)]; exact h5
theorem M_go {p : Nat} (hM : shM P K) (S : rS I sz lm tp) (h5 : I 91 5 = nI p) (hp : p ≤ sz) (h : ∀ I' J', rTok I' J' (tok tp sz lm p) → frGo I I' J J' → FV I' J') : ckV G (d + 1) mX12_go [.ref 91] I J P K n FV := by
  have key : ∀ (f p : Nat) (I : sI), sz - p = f → p ≤ sz → I 91 5 = nI p → rS I sz lm tp → (∀ I' J', rTok I' J' (tokQ tp sz lm (skp tp sz f p)) → frGo I I' J J' → FV I' J') → Ok G (d + 1) mX12_go 0 [some (.ref 91), none, none, none, none] [] I J P K n (kV P K n FV) := by
    intro f
    induction f with
    | zero =>
      intro p I hf hp h5 S h
      have hsz := S.2.2.1
      refine bX12_go_0 hM ?_
      rw [h5, S.1]
      exact br_t (nI_le (by omega) (by omega)) (M_go52 hM S h5 hp h)
    | succ f ih =>
      intro p I hf hp h5 S h
      have hsz := S.2.2.1
      have ht := S.2.2.2.2 p (by omega)
      have f5 : frGo I (u2 I 91 5 (nI (p + 1))) J J := frGo_u _ _ _ (by omega)
      have again : (tp p = 32 ∨ tp p = 10) → Ok G (d + 1) mX12_go 0 [some (.ref 91), none, none, none, none] [] (u2 I 91 5 (nI (p + 1))) J P K n (kV P K n FV) := fun g => by
        refine ih (p + 1) _ (by omega) (by omega) (u2_s _ _ _ _) (rS_fr S f5) (fun I' J' t fr => h I' J' ?_ (frGo_tr f5 fr))
        simp only [skp]
        rw [if_pos ⟨by omega, g⟩]
        exact t
      refine bX12_go_0 hM ?_
      rw [h5, S.1, nI_ck (by omega), ht.1, nI_1]
      refine br_f (nI_ge (by omega) (by omega)) ⟨nI_inN (by omega) (by decide), ?_⟩
      by_cases q1 : tp p = 32
      · exact br_t (by rw [q1]; rfl) (again (Or.inl q1))
      refine br_f (fun e => q1 ((nI_eq (b := 32) (by omega) (by decide)).mp e)) ⟨nI_inN (by omega) (by decide), ?_⟩
      by_cases q2 : tp p = 10
      · exact br_t (by rw [q2]; rfl) (again (Or.inr q2))
      refine br_f (fun e => q2 ((nI_eq (b := 10) (by omega) (by decide)).mp e)) (M_go52 hM S h5 hp (fun I' J' t fr => h I' J' ?_ fr))
      simp only [skp]
      rw [if_neg (fun e => e.2.elim q1 q2)]
      exact t
  exact key (sz - p) p I rfl hp h5 S h
end ModGo3
