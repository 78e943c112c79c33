/-! the reference: blend -/
def agp (so : Nat → Nat) (k x : Nat) : Nat := sm (fun v => shr (wn so k) 40 x v * (so 0 - v)) 40
abbrev bSt := Option (Nat × (Nat → Nat))
def bo (s : bSt) : Nat := match s with
  | none => 1000000
  | some p => p.1
def far (A t : Nat) : Nat := if A ≤ t then t - A else A - t
def blL (A left t : Nat) (row : Nat → Nat) (s : bSt) : bSt := if left = 0 ∧ far A t < bo s then some (far A t, row) else s
def blF (A : Nat) (f : Nat → Nat → Nat) (lim : Nat → Nat) : Nat → Nat → Nat → Nat → (Nat → Nat) → bSt → bSt
  | 0, _, left, t, row, s => blL A left t row s
  | r + 1, i, left, t, row, s => it (fun x s => blF A f lim r (i + 1) (left - x) (t + f i x) (up row i x) s) ((if left ≤ lim i then left else lim i) + 1) s
def rB (I : sI) (m : Nat) (s : bSt) : Prop := I 91 38 = nI (bo s) ∧ bo s ≤ 1000000 ∧ ∀ p, s = some p → ∀ k, k < m → I 109 k = nI (p.2 k)
def frB (I I' : sI) : Prop := ∀ c k, c ≠ 109 → c ≠ 110 → ¬ (c = 91 ∧ k = 38) → I' c k = I c k
theorem frB_rf (I : sI) : frB I I := fun _ _ _ _ _ => rfl
theorem frB_tr {I I' I2 : sI} (h : frB I I') (h2 : frB I' I2) : frB I I2 := fun c k a b e => (h2 c k a b e).trans (h c k a b e)
theorem sub_add3 (a b c : Nat) : nI a - nI b + nI c = nI (a + c) - nI b := by
  rw [Int32.sub_eq_add_neg, Int32.sub_eq_add_neg, Int32.add_assoc, Int32.add_comm (-nI b), ← Int32.add_assoc, i_add]
theorem sub_neg {t A : Nat} (h : t < A) (hA : A < 1073741824) : ¬ (0 : Int32) ≤ nI t - nI A := by
  rw [Int32.le_iff_toInt_le, pk_sub_toInt (by omega) (by omega)]
  have e : (0 : Int32).toInt = 0 := rfl
  omega
section ModBlend
variable {G : gG} {d : Nat} {I : sI} {J : sJ} {P : sP} {K : sK} {n : Nat} {F : Int32 → sI → sJ → Prop} {FV : sI → sJ → Prop} {hd so : Nat → Nat}
theorem M_agesOfPortion {k x : Nat} (hM : shM P K) (R : rM I hd so) (w : wf hd so) (hk : k < hd 1) (hx : x ≤ ltr so k) (h : ∀ I', chg I I' d3 → F (nI (agp so k x)) I' J) : ckI G (d + 2) mX12_agesOfPortion [.ref 91, .int (nI k), .int (nI x)] I J P K n F := by
  have hc := wf_casks w
  have hl := wf_ltr w hk
  refine bX12_agesOfPortion_0 hM _ _ (M_wineAt k (M_layPortion (f := wn so k) hM (shM_K93 hM) (by omega) (by omega) (by unfold d3; omega) (fun v hv => rM_wn R (by omega) hv) hx (Nat.le_trans hl (by omega)) (fun I1 g1 g2 => ?_)))
  have ey : I1 93 815 = nI (so 0) := (g2 93 815 (by unfold d3; omega)).trans (rM_year R)
  have key := loopN 40 (fun j => Ok G (d + 2) mX12_agesOfPortion 19 [some (.ref 91), none, none, some (.int (nI (sm (fun v => shr (wn so k) 40 x v * (so 0 - v)) j))), some (.int (nI j))] [] I1 J P K n (kI P K n F)) ?_ ?_ 0 (by omega)
  · exact key
  · exact bX12_agesOfPortion_19 hM _ _ (br_t (by decide) (h I1 g2))
  · intro j hj ih
    refine bX12_agesOfPortion_19 hM _ _ (br_f (nI_ge (b := 40) hj (by decide)) ⟨nI_inN hj (by decide), ?_⟩)
    rw [nI_ck (by omega), g1 j hj, ey, ages_step (fun q => shr_0 hx hj (w.2.2.2.2.2.2.2.2.1 k j hk q hj)), i_add, nI_1]
    exact ih
theorem M_blend44 {m : Nat} {row : Nat → Nat} {D : Nat} (hM : shM P K) (hm : m ≤ 4) (hr : ∀ k, k < m → I 110 k = nI (row k)) (h : ∀ I', (∀ k, k < m → I' 109 k = nI (row k)) → (∀ c k, c ≠ 109 → I' c k = I c k) → FV I' J) : Ok G (D + 1) mX12_blendFrom 44 [some (.ref 91), none, none, some (.int (nI m)), none, none, none, some (.int (nI 0))] [] I J P K n (kV P K n FV) := by
  have key := loopN m (fun j => ∀ I', (∀ k, k < j → I' 109 k = nI (row k)) → (∀ c k, c ≠ 109 → I' c k = I c k) → Ok G (D + 1) mX12_blendFrom 44 [some (.ref 91), none, none, some (.int (nI m)), none, none, none, some (.int (nI j))] [] I' J P K n (kV P K n FV)) ?_ ?_ 0 (by omega)
  · exact key I (fun k hk => by omega) (fun _ _ _ => rfl)
  · intro I' h1 h2
    exact bX12_blendFrom_44 hM _ _ (br_t (nI_le (Nat.le_refl _) (by omega)) (h I' h1 h2))
  · intro j hj ih I' h1 h2
    refine bX12_blendFrom_44 hM _ _ (br_f (nI_ge hj (by omega)) ⟨nI_inN (by omega) (by decide), nI_inN (by omega) (by decide), ?_⟩)
    rw [nI_ck (by omega), h2 110 j (by decide), hr j hj, nI_1]
    refine ih _ (fun k hk => ?_) (fun c k hc => (u2_a _ _ _ _ hc).trans (h2 c k hc))
    by_cases q : k = j
    · subst q; rw [u2_s]
    · rw [u2_k _ _ _ _ q]; exact h1 k (by omega)
theorem M_blendLeaf {m left t A : Nat} {row : Nat → Nat} {s : bSt} {D f0 : Nat} (hM : shM P K) (hm : m ≤ 4) (hl : left < 2147483648) (hA : A < 100000) (ht : t < 100000) (hr : ∀ k, k < m → I 110 k = nI (row k)) (B : rB I m s) (h : ∀ I', rB I' m (blL A left t row s) → frB I I' → (∀ k, I' 110 k = I 110 k) → FV I' J) : ckV G (D + 1) mX12_blendFrom [.ref 91, .int (nI m), .int (nI f0), .int (nI m), .int (nI left), .int (nI t - nI A)] I J P K n FV := by
  obtain ⟨B1, B2, B3⟩ := B
  have hf : far A t < 100000 := by unfold far; split <;> omega
  -- what follows when it is not better
  have no : ¬ (left = 0 ∧ far A t < bo s) → FV I J := by
    intro q
    have e : blL A left t row s = s := by unfold blL; rw [if_neg q]
    rw [e] at h
    exact h I ⟨B1, B2, B3⟩ (frB_rf I) (fun _ => rfl)
  have yes : left = 0 ∧ far A t < bo s → Ok G (D + 1) mX12_blendFrom 44 [some (.ref 91), none, none, some (.int (nI m)), none, none, none, some (.int (nI 0))] [] (u2 I 91 38 (nI (far A t))) J P K n (kV P K n FV) := by
    intro q
    have e : blL A left t row s = some (far A t, row) := by unfold blL; rw [if_pos q]
    rw [e] at h
    refine M_blend44 (row := row) hM hm (fun k hk => by rw [u2_a _ _ _ _ (by decide)]; exact hr k hk) (fun I' h1 h2 => h I' ⟨?_, ?_, ?_⟩ (fun c k a1 a2 a3 => ?_) (fun k => (h2 110 k (by decide)).trans (u2_a _ _ _ _ (by decide))))
    · rw [h2 91 38 (by decide), u2_s]; rfl
    · show far A t ≤ 1000000
      omega
    · intro p hp k hk
      cases hp
      exact h1 k hk
    · rw [h2 c k a1]
      simp only [u2]
      rw [if_neg a3]
  -- the comparisons
  have cmp : ∀ x : Int32, x = nI (far A t) → (((0 : Int32) < nI left → FV I J) ∧ (¬ (0 : Int32) < nI left → ((x < I 91 38 → Ok G (D + 1) mX12_blendFrom 44 [some (.ref 91), none, none, some (.int (nI m)), none, none, none, some (.int (nI 0))] [] (u2 I 91 38 x) J P K n (kV P K n FV)) ∧ (¬ x < I 91 38 → FV I J)))) := by
    intro x ex
    rw [ex, B1]
    by_cases q : left = 0
    · subst q
      refine br_f (by decide) ?_
      by_cases q2 : far A t < bo s
      · exact br_t (nI_lt q2 (by omega)) (yes ⟨rfl, q2⟩)
      · exact br_f (nI_nlt (by omega) (by omega)) (no (fun g => q2 g.2))
    · exact br_t (nI_lt (a := 0) (by omega) (by omega)) (no (fun g => q g.1))
  refine bX12_blendFrom_0 hM _ _ _ _ _ (br_t rfl ?_)
  by_cases q : A ≤ t
  · have e : nI t - nI A = nI (far A t) := by rw [i_sub q]; unfold far; rw [if_pos q]
    rw [e]
    exact br_t (nI_pos' (by omega)) (cmp _ rfl)
  · have e : -(nI t - nI A) = nI (far A t) := by rw [Int32.neg_sub, i_sub (by omega)]; unfold far; rw [if_neg q]
    exact br_f (sub_neg (by omega) (by omega)) (cmp _ e)
theorem M_blendFrom {m A f0 x0 : Nat} {f : Nat → Nat → Nat} (hM : shM P K) (w : wf hd so) (hm : m ≤ 4) (hm1 : f0 + m ≤ hd 1) (hA : A ≤ 1000) (hx0 : x0 ≤ 20) : ∀ (r i left t : Nat) (row : Nat → Nat) (s : bSt) (I : sI) (FV : sI → sJ → Prop), i + r = m → left ≤ x0 → t + 1000 * r ≤ 4000 → (∀ j y, j < m → y ≤ x0 → y ≤ ltr so (f0 + j) → f j y ≤ 1000) → rM I hd so → (∀ j y, j < m → y ≤ x0 → y ≤ ltr so (f0 + j) → I 108 (21 * j + y) = nI (f j y)) → (∀ k, k < i → I 110 k = nI (row k)) → rB I m s → (∀ I', rB I' m (blF A f (fun j => ltr so (f0 + j)) r i left t row s) → frB I I' → (∀ k, k < i → I' 110 k = I 110 k) → FV I' J) → ckV G (d + r + 2) mX12_blendFrom [.ref 91, .int (nI i), .int (nI f0), .int (nI m), .int (nI left), .int (nI t - nI A)] I J P K n FV := by
  have hc := wf_casks w
  intro r
  induction r with
  | zero =>
    intro i left t row s I FV hi hleft ht hf R Ag hr B h
    have hi : i = m := hi
    subst hi
    exact M_blendLeaf (D := d + 0 + 1) hM hm (by omega) (by omega) (by omega) hr B (fun I' a b c => h I' a b (fun k _ => c k))
  | succ r ih =>
    intro i left t row s I FV hi hleft ht hf R Ag hr B h
    have hi2 : i < m := by omega
    have hl := wf_ltr w (k := f0 + i) (by omega)
    refine bX12_blendFrom_0 hM _ _ _ _ _ (br_f (fun e => ?_) ?_)
    · have := (nI_eq (by omega) (by omega)).mp e; omega
    obtain ⟨N, hN⟩ : ∃ N, (if left ≤ ltr so (f0 + i) then left else ltr so (f0 + i)) = N := ⟨_, rfl⟩
    have hN1 : N ≤ left ∧ N ≤ ltr so (f0 + i) := by rw [← hN]; split <;> omega
    have hN2 : N = left ∨ N = ltr so (f0 + i) := by rw [← hN]; split <;> omega
    simp only [blF, hN] at h
    have key := loopN (N + 1) (fun x => ∀ I', (∀ k, k < i → I' 110 k = nI (row k)) → rB I' m (it (fun x s => blF A f (fun j => ltr so (f0 + j)) r (i + 1) (left - x) (t + f i x) (up row i x) s) x s) → frB I I' → Ok G (d + (r + 1) + 2) mX12_blendFrom 74 [some (.ref 91), some (.int (nI i)), some (.int (nI f0)), some (.int (nI m)), some (.int (nI left)), some (.int (nI t - nI A)), some (.int (nI x)), none] [] I' J P K n (kV P K n FV)) ?_ ?_ 0 (by omega)
    · exact key I hr B (frB_rf I)
    · intro I' hr' B' f'
      have u' : ∀ k, k < i → I' 110 k = I 110 k := fun k hk => (hr' k hk).trans (hr k hk).symm
      have R' : rM I' hd so := rM_fr R (fun k => f' 93 k (by decide) (by decide) (by omega))
      by_cases q : left < N + 1
      · exact bX12_blendFrom_74 hM _ _ _ _ _ _ (br_t (nI_lt q (by omega)) (h I' B' f' u'))
      · refine bX12_blendFrom_74 hM _ _ _ _ _ _ (br_f (nI_nlt (by omega) (by omega)) ?_)
        rw [i_add]
        exact M_litresOf hM R' (by omega) (br_t (nI_lt (by omega) (by omega)) (h I' B' f' u'))
    · intro x hx ihx I' hr' B' f'
      have R' : rM I' hd so := rM_fr R (fun k => f' 93 k (by decide) (by decide) (by omega))
      refine bX12_blendFrom_74 hM _ _ _ _ _ _ (br_f (nI_nlt (by omega) (by omega)) ?_)
      have e21 : 21 * nI i + nI x = nI (21 * i + x) := by show nI 21 * nI i + nI x = _; rw [i_mul, i_add]
      rw [i_add f0 i, e21, nI_ck (by omega), nI_ck (by omega), i_sub (by omega), nI_1 i, nI_1 x]
      refine M_litresOf hM R' (by omega) (br_f (nI_nlt (by omega) (by omega)) ⟨nI_inN (by omega) (by decide), nI_inN (by omega) (by decide), ?_⟩)
      have Ag' : ∀ j y, j < m → y ≤ x0 → y ≤ ltr so (f0 + j) → I' 108 (21 * j + y) = nI (f j y) := fun j y a b c => (f' 108 _ (by decide) (by decide) (by omega)).trans (Ag j y a b c)
      rw [Ag' i x hi2 (by omega) (by omega), sub_add3]
      have hfx := hf i x hi2 (by omega) (by omega)
      refine ih (i + 1) (left - x) (t + f i x) (up row i x) _ (u2 I' 110 i (nI x)) _ (by omega) (by omega) (by omega) hf (rM_fr R' (fun k => u2_a _ _ _ _ (by decide))) (fun j y a b c => (u2_a _ _ _ _ (by decide)).trans (Ag' j y a b c)) (fun k hk => ?_) ⟨(u2_a _ _ _ _ (by decide)).trans B'.1, B'.2.1, fun p hp k hk => (u2_a _ _ _ _ (by decide)).trans (B'.2.2 p hp k hk)⟩ (fun I2 B2 f2 u2' => ?_)
      · by_cases q : k = i
        · subst q; rw [u2_s, up_s]
        · rw [u2_k _ _ _ _ q, up_n _ _ q]; exact hr' k (by omega)
      · refine ihx I2 (fun k hk => ?_) B2 (frB_tr f' (fun c k a1 a2 a3 => (f2 c k a1 a2 a3).trans (u2_a _ _ _ _ a2)))
        rw [u2' k (by omega), u2_k _ _ _ _ (by omega)]
        exact hr' k hk
/-- blend, where it is not refused -/
def blR (hd so : Nat → Nat) (s x a : Nat) : bSt := blF (x * a) (fun j y => agp so (fst' hd s + j) y) (fun j => ltr so (fst' hd s + j)) (hd (5 + s)) 0 x 0 (fun _ => 0) none
def blOk (hd so : Nat → Nat) (s x a : Int32) : Bool := inB s (hd 0) && isB x 1 20 && inB a 40 && decide (cl x ≤ ssc hd (ltr so) (cl s))
theorem agp_le (w : wf hd so) {k x : Nat} (hx : x ≤ ltr so k) : agp so k x ≤ 39 * x := by
  have hy : so 0 ≤ 39 := w.2.2.2.2.2.2.1
  have h1 : agp so k x ≤ sm (fun v => 39 * shr (wn so k) 40 x v) 40 := sm_le (fun v _ => by
    rw [Nat.mul_comm]
    exact Nat.mul_le_mul_right _ (by omega))
  rw [sm_mul, (shr_ok (own := wn so k) (m := 40) hx).2] at h1
  exact h1
def frL (I I' : sI) : Prop := ∀ c k, ¬ d3 c → ¬ (108 ≤ c ∧ c ≤ 110) → ¬ (c = 91 ∧ (k = 37 ∨ k = 38)) → I' c k = I c k
end ModBlend
