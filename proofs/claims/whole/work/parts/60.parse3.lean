/-! the reference: names, faults, numbers, ends, the beginning -/
/-- the reader: the text, and the token that is ahead -/
def rP (I : sI) (J : sJ) (sz lm : Nat) (tp : Nat → Nat) (t : tokT) : Prop := rS I sz lm tp ∧ rTok I J t ∧ okT t sz
def nxT (tp : Nat → Nat) (sz lm : Nat) (t : tokT) : tokT := tok tp sz lm t.2.2.1
def isN (t : tokT) : Bool := decide (t.1 = 2) && allB (fun k => decide (t.2.2.2.2 ≠ wl k)) 22
section ModParse3
variable {G : gG} {d : Nat} {I : sI} {J : sJ} {P : sP} {K : sK} {n : Nat} {F : Int32 → sI → sJ → Prop} {FV : sI → sJ → Prop} {sz lm : Nat} {tp : Nat → Nat} {t : tokT}
theorem M_next' (hM : shM P K) (R : rP I J sz lm tp t) (h : ∀ I' J', rP I' J' sz lm tp (nxT tp sz lm t) → frGo I I' J J' → FV I' J') : ckV G (d + 1) mX12_go [.ref 91] I J P K n FV := by
  obtain ⟨S, T, o⟩ := R
  exact M_go hM S T.2.2.1 o.2.1 (fun I' J' t' f => h I' J' ⟨rS_fr S f, t', tok_ok S.2.2.1 S.2.2.2.1 o.2.1 (fun j hj => (S.2.2.2.2 j hj).2)⟩ f)
theorem M_isName (hM : shM P K) (T : rTok I J t) (o : okT t sz) (h : F (b01 (isN t)) I J) : ckI G (d + 2) mX12_isName [.ref 91] I J P K n F := by
  obtain ⟨T1, -, -, -, -, T6⟩ := T
  obtain ⟨o1, -, -, o4, -⟩ := o
  refine bX12_isName_0 hM ?_
  rw [T1]
  unfold isN at h
  by_cases q : t.1 = 2
  · rw [decide_eq_true q, Bool.true_and] at h
    refine br_t (by rw [q]; rfl) ?_
    have key := loopN 22 (fun k => allB (fun k => decide (t.2.2.2.2 ≠ wl k)) k = true → Ok G (d + 2) mX12_isName 12 [some (.ref 91), some (.int (nI k))] [] I J P K n (kI P K n F)) ?_ ?_ 0 (by omega)
    · exact key rfl
    · intro a
      rw [a] at h
      exact bX12_isName_12 hM _ (br_t (by decide) h)
    · intro k hk ih a
      refine bX12_isName_12 hM _ (br_f (nI_nlt (a := 21) (by omega) (by decide)) (M_wordOf hk ?_))
      rw [T6 q, nI_1]
      by_cases q2 : t.2.2.2.2 = wl k
      · refine br_t ((lg_cmp_eq _ _).mpr (by rw [q2])) ?_
        have e : allB (fun k => decide (t.2.2.2.2 ≠ wl k)) 22 = false := by
          cases g : allB (fun k => decide (t.2.2.2.2 ≠ wl k)) 22
          · rfl
          · exact absurd q2 (of_decide_eq_true (allB_t.mp g k hk))
        rw [e] at h
        exact h
      · refine br_f (fun e => q2 ((okW_eq (o4 q) (wl_ok k hk)).mp ((lg_cmp_eq _ _).mp e))) (ih ?_)
        simp only [allB, a, Bool.true_and]
        exact decide_eq_true q2
  · rw [decide_eq_false q, Bool.false_and] at h
    exact br_f (fun e => q ((nI_eq (b := 2) (by omega) (by decide)).mp e)) h
/-- a fault: its number and its place -/
def fau (t : tokT) (k : Nat) : Nat := if t.1 = 1 then 1 else k
def frBad (I I' : sI) : Prop := ∀ c k, ¬ (c = 91 ∧ (k = 10 ∨ k = 11)) → I' c k = I c k
theorem M_bad (k : Nat) (hM : shM P K) (T : rTok I J t) (o : okT t sz) (h : ∀ I', I' 91 10 = nI (fau t k) → I' 91 11 = nI t.2.1 → frBad I I' → F 0 I' J) : ckI G d mX12_bad [.ref 91, .int (nI k)] I J P K n F := by
  obtain ⟨T1, T2, -⟩ := T
  have o1 := o.1
  refine bX12_bad_0 hM _ ?_
  rw [T1, T2]
  have go : ∀ v : Int32, v = nI (fau t k) → F 0 (u2 (u2 I 91 10 v) 91 11 (nI t.2.1)) J := fun v e => h _ (by rw [u2_k _ _ _ _ (by decide), u2_s, e]) (u2_s _ _ _ _) (fun c j a => by simp only [u2]; rw [if_neg (by omega), if_neg (by omega)])
  by_cases q : t.1 = 1
  · exact br_t (by rw [q]; rfl) (go 1 (by unfold fau; rw [if_pos q]; rfl))
  · exact br_f (fun e => q ((nI_eq (b := 1) (by omega) (by decide)).mp e)) (go _ (by unfold fau; rw [if_neg q]))
end ModParse3
