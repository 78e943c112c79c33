/-! the reference: go -/
section ModGo
variable {G : gG} {d : Nat} {I : sI} {J : sJ} {P : sP} {K : sK} {n : Nat} {F : Int32 → sI → sJ → Prop} {FV : sI → sJ → Prop} {sz lm : Nat} {tp : Nat → Nat}
/-- within a run from q, at p -/
def rRun (I : sI) (J : sJ) (tp : Nat → Nat) (q p : Nat) (g : Bool) : Prop := I 91 5 = nI p ∧ I 91 6 = nI q ∧ (isL (tp q) = true → g = true → p - q ≤ 7 → J 91 12 = lN (vB 27 (lets tp q (p - q)) 0)) ∧ (isL (tp q) = false → g = true → p - q ≤ 3 → I 91 8 = nI (dval tp q (p - q)))
theorem lN27 {v c : Nat} (hc : 96 ≤ c) (hc2 : c < 1000) : 27 * lN v + (nI c).toInt64 - 96 = lN (27 * v + (c - 96)) := by
  rw [nI_l (by omega)]
  show lN 27 * lN v + lN c - lN 96 = _
  rw [lN_mul, lN_add, lN_sub (by omega)]
  congr 1
  omega
theorem nI10 {v c : Nat} (hc : 48 ≤ c) : 10 * nI v + nI c - 48 = nI (10 * v + (c - 48)) := by
  show nI 10 * nI v + nI c - nI 48 = _
  rw [i_mul, i_add, i_sub (by omega)]
  congr 1
  omega
theorem M_go307 {q p : Nat} {g : Bool} (L : Bool) (hL : isL (tp q) = L) (hM : shM P K) (S : rS I sz lm tp) (hq : q ≤ p) (hp : p < sz) (h5 : I 91 5 = nI p) (h6 : I 91 6 = nI q) (hc : L = false → g = true → isD (tp p) = true) (hw : isL (tp q) = true → g = true → p + 1 - q ≤ 7 → J 91 12 = lN (vB 27 (lets tp q (p + 1 - q)) 0)) (hn : isL (tp q) = false → g = true → p - q ≤ 3 → I 91 8 = nI (dval tp q (p - q))) (h : ∀ I', rRun I' J tp q (p + 1) g → frGo I I' J J → Ok G (d + 1) mX12_go 215 [some (.ref 91), none, some (.int (b01 L)), some (.int (b01 g)), none] [] I' J P K n (kV P K n FV)) : Ok G (d + 1) mX12_go 307 [some (.ref 91), none, some (.int (b01 L)), some (.int (b01 g)), some (.int (nI (tp p)))] [] I J P K n (kV P K n FV) := by
  have hsz := S.2.2.1
  refine bX12_go_307 hM _ _ _ ?_
  rw [h5, h6, i_sub hq, nI_1]
  by_cases q3 : 3 ≤ p - q
  · refine br_t (nI_le (a := 3) q3 (by omega)) (h _ ⟨u2_s _ _ _ _, ?_, hw, fun a b c => by omega⟩ (frGo_u _ _ _ (by omega)))
    rw [u2_k _ _ _ _ (by decide)]; exact h6
  · refine br_f (nI_ge (b := 3) (by omega) (by decide)) (h _ ⟨u2_s _ _ _ _, ?_, hw, fun a b c => ?_⟩ (frGo_tr (frGo_u _ _ _ (by omega)) (frGo_u _ _ _ (by omega))))
    · rw [u2_k _ _ _ _ (by decide), u2_k _ _ _ _ (by decide)]; exact h6
    · rw [u2_k _ _ _ _ (by decide), u2_s, hn a b (by omega)]
      have e : p + 1 - q = (p - q) + 1 := by omega
      have hd := hc (hL ▸ a) b
      simp only [isD, Bool.and_eq_true, decide_eq_true_eq] at hd
      rw [e, nI10 hd.1]
      show _ = nI (10 * dval tp q (p - q) + (tp (q + (p - q)) - 48))
      rw [show q + (p - q) = p by omega]
theorem M_goEnd {q p : Nat} (L : Bool) (hL : isL (tp q) = L) (hq : q < p) (hp : p ≤ 940) (B : rRun I J tp q p (allB (sameB tp q) (p - q))) (h : ∀ I', rTok I' J (tokR tp q p) → frGo I I' J J → FV I' J) : ((b01 (allB (sameB tp q) (p - q)) = 0 → FV (u2 I 91 7 1) J) ∧ (¬ b01 (allB (sameB tp q) (p - q)) = 0 → ((b01 L = 0 → (((I 91 5) - (I 91 6) ≤ 3 → ((b01 L = 0 → FV (u2 I 91 7 3) J) ∧ (¬ b01 L = 0 → FV (u2 I 91 7 2) J))) ∧ (¬ (I 91 5) - (I 91 6) ≤ 3 → FV (u2 I 91 7 1) J))) ∧ (¬ b01 L = 0 → (((I 91 5) - (I 91 6) ≤ 7 → ((b01 L = 0 → FV (u2 I 91 7 3) J) ∧ (¬ b01 L = 0 → FV (u2 I 91 7 2) J))) ∧ (¬ (I 91 5) - (I 91 6) ≤ 7 → FV (u2 I 91 7 1) J)))))) := by
  obtain ⟨B1, B2, B3, B4⟩ := B
  have e : I 91 5 - I 91 6 = nI (p - q) := by rw [B1, B2, i_sub (by omega)]
  have e6 : ∀ v : Int32, u2 I 91 7 v 91 6 = nI q := fun v => by rw [u2_k _ _ _ _ (by decide)]; exact B2
  have e5 : ∀ v : Int32, u2 I 91 7 v 91 5 = nI p := fun v => by rw [u2_k _ _ _ _ (by decide)]; exact B1
  have wr : tokR tp q p = (1, q, p, 0, []) → FV (u2 I 91 7 1) J := fun et => by
    rw [et] at h
    exact h _ ⟨u2_s _ _ _ _, e6 _, e5 _, fun a => (by cases a), fun a => (by cases a), fun a => (by cases a)⟩ (frGo_u _ _ _ (by omega))
  rw [e]
  unfold tokR at h wr
  rw [hL] at h wr
  refine b01n (fun g => wr (by rw [if_pos (Or.inl g)])) (fun g => b01n (fun l => ?_) (fun l => ?_))
  · subst l
    by_cases q3 : p - q ≤ 3
    · rw [if_neg (by rw [g]; simp; omega)] at h
      refine br_t (nI_le (b := 3) q3 (by decide)) (br_t rfl (h _ ⟨u2_s _ _ _ _, e6 _, e5 _, fun a => (by cases a), fun _ => ?_, fun a => (by cases a)⟩ (frGo_u _ _ _ (by omega))))
      rw [u2_k _ _ _ _ (by decide)]
      exact B4 hL g q3
    · exact br_f (nI_ge (a := 3) (by omega) (by omega)) (wr (by rw [if_pos (Or.inr (by simp; omega))]))
  · subst l
    by_cases q3 : p - q ≤ 7
    · rw [if_neg (by rw [g]; simp; omega)] at h
      exact br_t (nI_le (b := 7) q3 (by decide)) (br_f (by decide) (h _ ⟨u2_s _ _ _ _, e6 _, e5 _, fun a => (by cases a), fun a => (by cases a), fun _ => B3 hL g q3⟩ (frGo_u _ _ _ (by omega))))
    · exact br_f (nI_ge (a := 7) (by omega) (by omega)) (wr (by rw [if_pos (Or.inr (by simp; omega))]))
end ModGo
