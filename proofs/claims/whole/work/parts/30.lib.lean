/-! finite sums, loops, numbers -/
def sm (f : Nat → Nat) : Nat → Nat
  | 0 => 0
  | k + 1 => sm f k + f k
theorem sm_congr {f g : Nat → Nat} {n : Nat} (h : ∀ k, k < n → f k = g k) : sm f n = sm g n := by
  induction n with
  | zero => rfl
  | succ n ih => simp only [sm]; rw [ih (fun k hk => h k (by omega)), h n (by omega)]
theorem sm_le {f g : Nat → Nat} {n : Nat} (h : ∀ k, k < n → f k ≤ g k) : sm f n ≤ sm g n := by
  induction n with
  | zero => exact Nat.le_refl _
  | succ n ih => simp only [sm]; have := ih (fun k hk => h k (by omega)); have := h n (by omega); omega
theorem sm_add (f g : Nat → Nat) (n : Nat) : sm (fun k => f k + g k) n = sm f n + sm g n := by
  induction n with
  | zero => rfl
  | succ n ih => simp only [sm]; omega
theorem sm_mul (c : Nat) (f : Nat → Nat) (n : Nat) : sm (fun k => c * f k) n = c * sm f n := by
  induction n with
  | zero => simp [sm]
  | succ n ih => simp only [sm]; rw [ih, Nat.mul_add]
theorem sm_const (c n : Nat) : sm (fun _ => c) n = n * c := by
  induction n with
  | zero => simp [sm]
  | succ n ih => simp only [sm]; rw [ih, Nat.succ_mul]
theorem sm_zero (n : Nat) : sm (fun _ => 0) n = 0 := by rw [sm_const]; simp
theorem sm_bound {f : Nat → Nat} {n c : Nat} (h : ∀ k, k < n → f k ≤ c) : sm f n ≤ n * c := by rw [← sm_const]; exact sm_le h
theorem sm_mem {f : Nat → Nat} {n k : Nat} (h : k < n) : f k ≤ sm f n := by
  induction n with
  | zero => omega
  | succ n ih =>
    simp only [sm]
    rcases Nat.lt_or_ge k n with q | q
    · have := ih q; omega
    · rw [show k = n by omega]; omega
theorem sm_mono {f : Nat → Nat} {m n : Nat} (h : m ≤ n) : sm f m ≤ sm f n := by
  induction n with
  | zero => rw [show m = 0 by omega]; exact Nat.le_refl _
  | succ n ih =>
    rcases Nat.lt_or_ge m (n + 1) with q | q
    · simp only [sm]; have := ih (by omega); omega
    · rw [show m = n + 1 by omega]; exact Nat.le_refl _
theorem sm_upd {f : Nat → Nat} {n k v : Nat} (h : k < n) : sm (fun i => if i = k then v else f i) n + f k = sm f n + v := by
  induction n with
  | zero => omega
  | succ n ih =>
    simp only [sm]
    rcases Nat.lt_or_ge k n with q | q
    · have := ih q
      rw [if_neg (by omega)]
      omega
    · have e : k = n := by omega
      subst e
      rw [if_pos rfl, sm_congr (g := f) (fun i hi => if_neg (by omega))]
      omega
theorem sm_split (f : Nat → Nat) (m n : Nat) : sm f (m + n) = sm f m + sm (fun k => f (m + k)) n := by
  induction n with
  | zero => rfl
  | succ n ih => rw [Nat.add_succ]; simp only [sm]; rw [ih]; omega
theorem sm_pos {f : Nat → Nat} {n : Nat} (h : 0 < sm f n) : ∃ k, k < n ∧ 0 < f k := by
  induction n with
  | zero => simp [sm] at h
  | succ n ih =>
    simp only [sm] at h
    rcases Nat.eq_zero_or_pos (f n) with q | q
    · obtain ⟨k, h1, h2⟩ := ih (by omega)
      exact ⟨k, by omega, h2⟩
    · exact ⟨n, by omega, q⟩
theorem sm_eq0 {f : Nat → Nat} {n : Nat} : sm f n = 0 ↔ ∀ k, k < n → f k = 0 := by
  constructor
  · intro h k hk
    have := sm_mem (f := f) hk
    omega
  · intro h
    rw [sm_congr (g := fun _ => 0) h, sm_zero]
/-- a loop that counts up to N, its state a function of the count -/
theorem loopN (N : Nat) (W : Nat → Prop) (hx : W N) (hs : ∀ j, j < N → W (j + 1) → W j) : ∀ j, j ≤ N → W j := by
  have key : ∀ k j, j + k = N → W j := by
    intro k
    induction k with
    | zero => intro j h; rw [show j = N by omega]; exact hx
    | succ k ih => intro j h; exact hs j (by omega) (ih (j + 1) (by omega))
  exact fun j h => key (N - j) j (by omega)
theorem nI_ck {n : Nat} (h : n < 2147483648) : (nI n).toNatClampNeg = n := nI_clamp h
theorem nI_inN {n N : Nat} (h : n < N) (hN : N ≤ 2147483647) : vp_in (nI n) N := vp_in_nI h (by omega)
theorem i_lt {a b : Nat} (ha : a < 2147483648) (hb : b < 2147483648) : (nI a < nI b) = (a < b) := propext (nI_ltI ha hb)
theorem i_le {a b : Nat} (ha : a < 2147483648) (hb : b < 2147483648) : (nI a ≤ nI b) = (a ≤ b) := propext (nI_leI ha hb)
theorem i_eq {a b : Nat} (ha : a < 2147483648) (hb : b < 2147483648) : (nI a = nI b) = (a = b) := propext (nI_eq ha hb)
theorem i_sub {a b : Nat} (h : b ≤ a) : nI a - nI b = nI (a - b) := pk_sub h
theorem i_add (a b : Nat) : nI a + nI b = nI (a + b) := nI_add a b
theorem i_mul (a b : Nat) : nI a * nI b = nI (a * b) := pk_mul a b
theorem i_div {a b : Nat} (ha : a < 2147483648) (h0 : 0 < b) (hb : b < 2147483648) : nI a / nI b = nI (a / b) := pk_div ha h0 hb
theorem i_rem {a b : Nat} (ha : a < 2147483648) (h0 : 0 < b) (hb : b < 2147483648) : nI a - nI a / nI b * nI b = nI (a % b) := pk_rem ha h0 hb
/-- any int is a number below, or none -/
theorem i_cases (x : Int32) : x < 0 ∨ ∃ j : Nat, j < 2147483648 ∧ x = nI j := by
  rcases Int32.lt_or_le x 0 with h | h
  · exact Or.inl h
  · exact Or.inr (nI_of (Int32.not_lt.mpr h))
theorem neg_ne {x : Int32} (h : x < 0) {a : Nat} (ha : a < 2147483648) : x ≠ nI a := fun e => nI_pos ha (e ▸ h)
theorem neg_lt {x : Int32} (h : x < 0) {a : Nat} (ha : a < 2147483648) : x < nI a := Int32.lt_of_lt_of_le h (nI_pos' ha)
