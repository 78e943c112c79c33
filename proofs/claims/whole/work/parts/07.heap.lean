section RepLaws
variable {G : gG} {I I' : sI} {J J' : sJ} {P P' : sP} {K : sK} {n : Nat} {H H' : Heap}
theorem rep_lt (R : Rep G I J P K n H) {a : Nat} (h : (K a).1 < 20) : a < n := by
  rcases Nat.lt_or_ge a n with q | q
  · exact q
  · rw [R.2.2.2.2.1 a q] at h
    exact absurd h (by decide)
theorem rep_ad (R : Rep G I J P K n H) {a : Nat} (h : a < n) : gAd G a = gB G + a := by
  have h1 := R.2.2.2.2.2.1
  unfold gAd
  rw [if_pos (by omega)]
theorem gS_congr {K K' : sK} {n : Nat} (h : ∀ a, a < n → K a = K' a) : gS K n = gS K' n := by
  induction n with
  | zero => rfl
  | succ n ih => simp only [gS]; rw [ih (fun a ha => h a (by omega)), h n (by omega)]
theorem gS_mono {K : sK} {m n : Nat} (h : m ≤ n) : gS K m ≤ gS K n := by
  induction n with
  | zero => rw [show m = 0 by omega]; exact Nat.le_refl _
  | succ n ih =>
    rcases Nat.lt_or_ge m (n + 1) with q | q
    · simp only [gS]; have := ih (by omega); omega
    · rw [show m = n + 1 by omega]; exact Nat.le_refl _
theorem gS_drop (R : Rep G I J P K n H) : ∀ (k n0 : Nat), n0 + k = n → ((H.toList.drop (gB G + n0)).map (·.slots.size)).sum + gS K n0 = gS K n := by
  intro k
  induction k with
  | zero =>
    intro n0 h
    have e : H.toList.drop (gB G + n0) = [] := List.drop_eq_nil_of_le (by rw [Array.length_toList, R.1]; omega)
    rw [e, show n0 = n by omega]
    simp
  | succ k ih =>
    intro n0 h
    obtain ⟨cell, hc, hz⟩ := R.2.2.1 n0 (by omega)
    have hlt : gB G + n0 < H.toList.length := by rw [Array.length_toList, R.1]; omega
    have e : H.toList.drop (gB G + n0) = H.toList[gB G + n0] :: H.toList.drop (gB G + n0 + 1) := List.drop_eq_getElem_cons hlt
    have e2 : H.toList[gB G + n0] = cell := by
      have h2 := (Array.getElem?_eq_some_iff.mp hc).2
      simpa using h2
    have h3 := ih (n0 + 1) (by omega)
    simp only [gS] at h3
    rw [e, e2, List.map_cons, List.sum_cons, hz]
    rw [show gB G + n0 + 1 = gB G + (n0 + 1) by omega]
    omega
theorem rep_obj (R : Rep G I J P K n H) {a ci : Nat} (hk : (K a).1 = ci) (hc : ci < 13) : ∃ r : vw_C, vwCl[ci]? = some r ∧ r.2.2 = (K a).2 ∧ t_OB (gB G + a) (G.2.2.1.1 ci) r.2.2 (G.2.2.1.2 ci) H (fun j => gF G I J P a j (gTy ci j)) := by
  have h := R.2.2.2.1 a (rep_lt R (by omega))
  unfold gC at h
  rw [hk, if_pos hc] at h
  exact h
theorem rep_arr (R : Rep G I J P K n H) {a t : Nat} (hk : (K a).1 = 13 + t) (hc : t < 6) : H[gB G + a]? = some (arrV (G.2.2.2.1 t) (K a).2 (fun j => gE G I J P a j t)) := by
  have h := R.2.2.2.1 a (rep_lt R (by omega))
  unfold gC at h
  rw [hk, if_neg (by omega), if_pos (by omega), show 13 + t - 13 = t by omega] at h
  exact h
/-- a store into one cell -/
theorem rep_put (R : Rep G I J P K n H) {a : Nat} (ha : a < n) (hz : H'.size = H.size) (ho : ∀ q : Nat, q ≠ gB G + a → H'[q]? = H[q]?) (hs : ∃ cell : Cell, H'[gB G + a]? = some cell ∧ cell.slots.size = (K a).2)
    (hsame : ∀ b k, b ≠ a → I' b k = I b k ∧ J' b k = J b k ∧ P' b k = P b k) (hC : gC G I' J' P' a (K a) H') : Rep G I' J' P' K n H' := by
  refine ⟨hz.trans R.1, fun q hq => (ho q (by omega)).trans (R.2.1 q hq), fun b hb => ?_, fun b hb => ?_, R.2.2.2.2.1, R.2.2.2.2.2.1, R.2.2.2.2.2.2⟩
  · by_cases e : b = a
    · subst e; exact hs
    · obtain ⟨cell, h1, h2⟩ := R.2.2.1 b hb
      exact ⟨cell, (ho _ (by omega)).trans h1, h2⟩
  · by_cases e : b = a
    · subst e; exact hC
    · have h := R.2.2.2.1 b hb
      have hI : ∀ k, I' b k = I b k := fun k => (hsame b k e).1
      have hJ : ∀ k, J' b k = J b k := fun k => (hsame b k e).2.1
      have hP : ∀ k, P' b k = P b k := fun k => (hsame b k e).2.2
      have hh : H'[gB G + b]? = H[gB G + b]? := ho _ (by omega)
      unfold gC at h ⊢
      split
      · rename_i q
        rw [if_pos q] at h
        obtain ⟨r, h1, h2, h3⟩ := h
        refine ⟨r, h1, h2, (h3.kept hh).to (fun k _ => ?_)⟩
        unfold gF
        split <;> simp [hI, hJ, hP]
      · rename_i q
        rw [if_neg q] at h
        split
        · rename_i q2
          rw [if_pos q2] at h
          rw [hh, h]
          refine congrArg some (congrArg (arrV _ _) (funext fun j => ?_))
          unfold gE
          simp [hI, hJ, hP]
        · trivial
end RepLaws
theorem clTy : ∀ (ci : Nat) (q : vw_C), vwCl[ci]? = some q → ∀ k, k < q.2.2 → parseFieldDescriptor (q.2.1 k).2.2.1 = some (gTy ci k) := by
  intro ci q h
  match ci, h with
  | 0, h => cases h; exact tyX0_ok
  | 1, h => cases h; exact tyX1_ok
  | 2, h => cases h; exact tyX2_ok
  | 3, h => cases h; exact tyX3_ok
  | 4, h => cases h; exact tyX4_ok
  | 5, h => cases h; exact tyX5_ok
  | 6, h => cases h; exact tyX6_ok
  | 7, h => cases h; exact tyX7_ok
  | 8, h => cases h; exact tyX8_ok
  | 9, h => cases h; exact tyX9_ok
  | 10, h => cases h; exact tyX10_ok
  | 11, h => cases h; exact tyX11_ok
  | 12, h => cases h; exact tyX12_ok
  | k + 13, h => simp [vwCl] at h
theorem clNm : ∀ (ci : Nat) (q : vw_C), vwCl[ci]? = some q → ∀ a, a < q.2.2 → ∀ b, b < q.2.2 → a ≠ b → (q.2.1 a).2.1 ≠ (q.2.1 b).2.1 := by
  intro ci q h
  match ci, h with
  | 0, h => cases h; exact nmX0
  | 1, h => cases h; exact nmX1
  | 2, h => cases h; exact nmX2
  | 3, h => cases h; exact nmX3
  | 4, h => cases h; exact nmX4
  | 5, h => cases h; exact nmX5
  | 6, h => cases h; exact nmX6
  | 7, h => cases h; exact nmX7
  | 8, h => cases h; exact nmX8
  | 9, h => cases h; exact nmX9
  | 10, h => cases h; exact nmX10
  | 11, h => cases h; exact nmX11
  | 12, h => cases h; exact nmX12
  | k + 13, h => simp [vwCl] at h
theorem clIn0 : (vwCl.all fun q => (u_ws q.1 q.2.1 q.2.2).all fun w => tbG.contains w) = true := by decide +kernel
