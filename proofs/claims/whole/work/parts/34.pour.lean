/-! the reference: portions poured -/
section ModPour
variable {G : gG} {d : Nat} {I : sI} {J : sJ} {P : sP} {K : sK} {n : Nat} {F : Int32 → sI → sJ → Prop} {FV : sI → sJ → Prop} {hd so : Nat → Nat}
def d3 (a : Nat) : Prop := a = 102 ∨ a = 103 ∨ a = 104
theorem M_layPortion {a len q x : Nat} {f : Nat → Nat} (hM : shM P K) (ka : K a = (13, len)) (hq : q + 40 ≤ len) (hl : len ≤ 10000) (ha : ¬ d3 a) (hf : ∀ v, v < 40 → I a (q + v) = nI (f v)) (hx : x ≤ sm f 40) (hb : sm f 40 ≤ 20000)
    (h : ∀ I', (∀ v, v < 40 → I' 103 v = nI (shr f 40 x v)) → chg I I' d3 → FV I' J) : ckV G (d + 1) mX12_layPortion [.ref 91, .ref a, .int (nI q), .int (nI x)] I J P K n FV := by
  have key := loopN 40 (fun j => ∀ I', (∀ v, v < j → I' 102 v = nI (f v)) → chg I I' (fun a => a = 102) → Ok G (d + 1) mX12_layPortion 3 [some (.ref 91), some (.ref a), some (.int (nI q)), some (.int (nI x)), some (.int (nI j))] [] I' J P K n (kV P K n FV)) ?_ ?_ 0 (by omega)
  · exact bX12_layPortion_0 _ _ _ (key I (fun v hv => by omega) (fun a k _ => rfl))
  · intro I' h1 h2
    refine bX12_layPortion_3 hM _ _ _ _ (br_t (nI_le (Nat.le_refl 40) (by omega)) ?_)
    refine M_layShares (many := 40) (own := f) hM (by decide) (by decide) h1 hx hb (fun I2 g1 g2 => h I2 g1 (fun c k hc => ?_))
    rw [g2 c k (fun e => hc (e.elim (fun e => Or.inr (Or.inl e)) (fun e => Or.inr (Or.inr e)))), h2 c k (fun e => hc (Or.inl e))]
  · intro j hj ih I' h1 h2
    refine bX12_layPortion_3 hM _ _ _ _ (br_f (nI_ge (b := 40) hj (by omega)) ⟨by rw [ka], by rw [ka, i_add]; exact nI_inN (by omega) (by omega), nI_inN (by omega) (by omega), ?_⟩)
    rw [i_add, nI_ck (by omega), nI_ck (by omega), nI_1, h2 a _ (fun e => ha (Or.inl e)), hf j hj]
    refine ih _ (fun v hv => ?_) (fun c k hc => ?_)
    · by_cases e : v = j
      · subst e; rw [u2_s]
      · rw [u2_k _ _ _ _ e]; exact h1 v (by omega)
    · rw [u2_a _ _ _ _ hc]; exact h2 c k hc
/-- in a range of forty -/
def rgn (a q c k : Nat) : Prop := c = a ∧ q ≤ k ∧ k < q + 40
theorem M_pours {a b la lb q r x : Nat} {f : Nat → Nat} (hM : shM P K) (ka : K a = (13, la)) (kb : K b = (13, lb)) (hq : q + 40 ≤ la) (hr : r + 40 ≤ lb) (hla : la ≤ 10000) (hlb : lb ≤ 10000) (ha : ¬ d3 a) (hb : ¬ d3 b) (hab : a ≠ b ∨ q + 40 ≤ r ∨ r + 40 ≤ q) (hf : ∀ v, v < 40 → I a (q + v) = nI (f v)) (hx : x ≤ sm f 40) (hs : sm f 40 ≤ 20000)
    (h : ∀ I', (∀ v, v < 40 → I' a (q + v) = nI (f v - shr f 40 x v)) → (∀ v, v < 40 → I' b (r + v) = I b (r + v) + nI (shr f 40 x v)) → (∀ c k, ¬ d3 c → ¬ rgn a q c k → ¬ rgn b r c k → I' c k = I c k) → FV I' J) : ckV G (d + 2) mX12_pours [.ref 91, .ref a, .int (nI q), .int (nI x), .ref b, .int (nI r)] I J P K n FV := by
  have hsh := (shr_ok hx).1
  refine bX12_pours_0 hM _ _ _ _ _ (M_layPortion hM ka hq hla ha hf hx hs (fun I1 p1 p2 => ?_))
  have key := loopN 40 (fun j => ∀ I', (∀ v, v < 40 → I' 103 v = nI (shr f 40 x v)) → (∀ v, v < 40 → I' a (q + v) = nI (if v < j then f v - shr f 40 x v else f v)) → (∀ v, v < 40 → I' b (r + v) = if v < j then I b (r + v) + nI (shr f 40 x v) else I b (r + v)) → (∀ c k, ¬ d3 c → ¬ rgn a q c k → ¬ rgn b r c k → I' c k = I c k) → Ok G (d + 2) mX12_pours 10 [some (.ref 91), some (.ref a), some (.int (nI q)), none, some (.ref b), some (.int (nI r)), some (.int (nI j))] [] I' J P K n (kV P K n FV)) ?_ ?_ 0 (by omega)
  · exact key I1 p1 (fun v hv => by rw [if_neg (by omega), p2 a _ ha]; exact hf v hv) (fun v hv => by rw [if_neg (by omega)]; exact p2 b _ hb) (fun c k hc _ _ => p2 c k hc)
  · intro I' h1 h2 h3 h4
    refine bX12_pours_10 hM _ _ _ _ _ (br_t (nI_le (Nat.le_refl 40) (by omega)) (h I' (fun v hv => ?_) (fun v hv => ?_) h4))
    · rw [h2 v hv, if_pos hv]
    · rw [h3 v hv, if_pos hv]
  · intro j hj ih I' h1 h2 h3 h4
    have v1 : vp_in (nI (q + j)) la := nI_inN (by omega) (by omega)
    have v2 : vp_in (nI (r + j)) lb := nI_inN (by omega) (by omega)
    have v3 : vp_in (nI j) 40 := nI_inN (by omega) (by omega)
    have e1 : K a = (13, la) := ka
    refine bX12_pours_10 hM _ _ _ _ _ (br_f (nI_ge (b := 40) hj (by omega)) ?_)
    rw [i_add, i_add, ka, kb]
    refine ⟨rfl, v1, v3, rfl, v1, rfl, v2, v3, rfl, v2, ?_⟩
    rw [nI_ck (by omega), nI_ck (by omega), nI_ck (by omega), nI_1, h1 j hj, h2 j hj, if_neg (by omega), i_sub (hsh j hj)]
    have ne : ∀ v, v < 40 → ¬ (b = a ∧ r + v = q + j) := fun v hv e => by omega
    have ne2 : ∀ v, v < 40 → ¬ (a = b ∧ q + v = r + j) := fun v hv e => by omega
    have e2 : u2 I' a (q + j) (nI (f j - shr f 40 x j)) b (r + j) = I b (r + j) := by
      have := ne j hj
      simp only [u2]
      rw [if_neg this, h3 j hj, if_neg (by omega)]
    have e3 : u2 I' a (q + j) (nI (f j - shr f 40 x j)) 103 j = nI (shr f 40 x j) := by
      rw [u2_a _ _ _ _ (fun e => ha (Or.inr (Or.inl e.symm)))]
      exact h1 j hj
    rw [e2, e3]
    refine ih _ (fun v hv => ?_) (fun v hv => ?_) (fun v hv => ?_) (fun c k hc hca hcb => ?_)
    · rw [u2_a _ _ _ _ (fun e => hb (Or.inr (Or.inl e.symm))), u2_a _ _ _ _ (fun e => ha (Or.inr (Or.inl e.symm)))]
      exact h1 v hv
    · have := ne2 v hv
      simp only [u2]
      rw [if_neg this]
      by_cases e : v = j
      · subst e
        rw [if_pos ⟨trivial, rfl⟩, if_pos (by omega)]
      · rw [if_neg (by omega), h2 v hv]
        by_cases e4 : v < j
        · rw [if_pos e4, if_pos (by omega)]
        · rw [if_neg e4, if_neg (by omega)]
    · simp only [u2]
      by_cases e : v = j
      · subst e
        rw [if_pos ⟨trivial, rfl⟩, if_pos (by omega)]
      · rw [if_neg (by omega)]
        have := ne v hv
        rw [if_neg this, h3 v hv]
        by_cases e4 : v < j
        · rw [if_pos e4, if_pos (by omega)]
        · rw [if_neg e4, if_neg (by omega)]
    · simp only [u2]
      rw [if_neg (fun e => hcb ⟨e.1, by omega, by omega⟩), if_neg (fun e => hca ⟨e.1, by omega, by omega⟩)]
      exact h4 c k hc hca hcb
theorem M_clear {a la q : Nat} (ka : K a = (13, la)) (hq : q + 40 ≤ la) (hla : la ≤ 10000)
    (h : ∀ I', (∀ v, v < 40 → I' a (q + v) = nI 0) → (∀ c k, ¬ rgn a q c k → I' c k = I c k) → FV I' J) : ckV G d mX12_clear [.ref 91, .ref a, .int (nI q)] I J P K n FV := by
  have key := loopN 40 (fun j => ∀ I', (∀ v, v < j → I' a (q + v) = nI 0) → (∀ c k, ¬ rgn a q c k → I' c k = I c k) → Ok G d mX12_clear 2 [none, some (.ref a), some (.int (nI q)), some (.int (nI j))] [] I' J P K n (kV P K n FV)) ?_ ?_ 0 (by omega)
  · exact bX12_clear_0 _ _ (key I (fun v hv => by omega) (fun c k _ => rfl))
  · intro I' h1 h2
    exact bX12_clear_2 _ _ _ (br_t (nI_le (Nat.le_refl 40) (by omega)) (h I' h1 h2))
  · intro j hj ih I' h1 h2
    refine bX12_clear_2 _ _ _ (br_f (nI_ge (b := 40) hj (by omega)) ⟨by rw [ka], by rw [ka, i_add]; exact nI_inN (by omega) (by omega), ?_⟩)
    rw [i_add, nI_ck (by omega), nI_1]
    refine ih _ (fun v hv => ?_) (fun c k hc => ?_)
    · by_cases e : v = j
      · subst e; rw [u2_s]; rfl
      · rw [u2_k _ _ _ _ (by omega)]; exact h1 v (by omega)
    · simp only [u2]
      rw [if_neg (fun e => hc ⟨e.1, by omega, by omega⟩)]
      exact h2 c k hc
end ModPour
