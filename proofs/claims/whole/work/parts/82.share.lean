/-! the class: shares -/
section Share
variable {G : gG} {d : Nat} {I : sI} {J : sJ} {P : sP} {K : sK} {n : Nat} {F : Int32 → sI → sJ → Prop} {FV : sI → sJ → Prop}
theorem C_fill {a len : Nat} (x : Int32) (ka : K a = (13, len)) (hl : len ≤ 100000) (h : FV (wr I a 0 len (fun _ => x)) J) : ckV G d mJ7_fill_53178 [.ref a, .int x] I J P K n FV := by
  refine bJ7_fill_53178_0 a x ?_
  rw [ka]
  refine ⟨rfl, ?_⟩
  have key := loopN len (fun j => Ok G d mJ7_fill_53178 5 [some (.ref a), some (.int x), some (.int (nI j)), some (.int (nI len))] [] (wr I a 0 j (fun _ => x)) J P K n (kV P K n FV)) ?_ ?_ 0 (by omega)
  · rw [wr_0] at key; exact key
  · exact bJ7_fill_53178_5 a _ _ _ (br_t (nI_le (Nat.le_refl _) (by omega)) h)
  · intro j hj ih
    refine bJ7_fill_53178_5 a _ _ _ (br_f (nI_ge hj (by omega)) ?_)
    rw [ka]
    refine ⟨rfl, nI_inN hj (by show len ≤ _; omega), ?_⟩
    rw [nI_ck (by omega), nI_1]
    have e := wr_s I a 0 j (fun _ => x)
    rw [Nat.zero_add] at e
    rw [e]; exact ih
theorem C_giveMost {lo' to b lb : Nat} {left : Nat → Nat} (hX : shX P K) (kb : K b = (13, lb)) (hlb : lb ≤ 1000) (h1 : lo' < to) (h2 : to ≤ 40) (h3 : to ≤ lb) (hl : ∀ k, lo' ≤ k → k < to → I 5 k = nI (left k) ∧ left k < 1000000000) (h : ∀ q, lo' ≤ q → q < to → (∀ i, lo' ≤ i → i < to → left i ≤ left q) → (∀ i, lo' ≤ i → i < q → left i < left q) → FV (u2 (u2 I b q (I b q + 1)) 5 q 0) J) : ckV G d mX2_giveMostLeft [.ref 4, .int (nI lo'), .int (nI to), .ref b] I J P K n FV := by
  refine bX2_giveMostLeft_0 _ _ b ?_
  rw [nI_1]
  have key := loopN (to - lo') (fun j => ∀ q, 0 < j → lo' ≤ q → q < lo' + j → (∀ i, lo' ≤ i → i < lo' + j → left i ≤ left q) → (∀ i, lo' ≤ i → i < q → left i < left q) → Ok G d mX2_giveMostLeft 8 [some (.ref 4), none, some (.int (nI to)), some (.ref b), some (.int (nI q)), some (.int (nI (lo' + j)))] [] I J P K n (kV P K n FV)) ?_ ?_ 1 (by omega)
  · exact key lo' (by decide) (Nat.le_refl _) (by omega) (fun i a b => by rw [show i = lo' by omega]; exact Nat.le_refl _) (fun i a b => by omega)
  · intro q _ q1 q2 q3 q4
    have e : lo' + (to - lo') = to := by omega
    rw [e] at q2 q3 ⊢
    refine bX2_giveMostLeft_8 hX _ b _ _ (br_t (nI_le (Nat.le_refl _) (by omega)) ?_)
    rw [kb, nI_ck (by omega)]
    exact ⟨rfl, nI_inN (by show q < lb; omega) (by show lb ≤ _; omega), rfl, nI_inN (by show q < lb; omega) (by show lb ≤ _; omega), nI_inN (by omega) (by decide), h q q1 q2 q3 q4⟩
  · intro j hj ih q j0 q1 q2 q3 q4
    refine bX2_giveMostLeft_8 hX _ b _ _ (br_f (nI_ge (by omega) (by omega)) ⟨nI_inN (by omega) (by decide), nI_inN (by omega) (by decide), ?_⟩)
    have a1 := hl (lo' + j) (by omega) (by omega)
    have a2 := hl q q1 (by omega)
    rw [nI_ck (by omega), nI_ck (by omega), a1.1, a2.1, i_le (by omega) (by omega), nI_1]
    refine ⟨fun z => ?_, fun z => ?_⟩
    · refine ih q (by omega) q1 (by omega) (fun i b1 b2 => ?_) q4
      by_cases e : i = lo' + j
      · rw [e]; exact z
      · exact q3 i b1 (by omega)
    · refine ih (lo' + j) (by omega) (by omega) (by omega) (fun i b1 b2 => ?_) (fun i b1 b2 => ?_)
      · by_cases e : i = lo' + j
        · rw [e]; exact Nat.le_refl _
        · have := q3 i b1 (by omega); omega
      · have := q3 i b1 (by omega); omega
theorem C_give {m S lo' to b lb R : Nat} {base rem : Nat → Nat} (hX : shX P K) (kb : K b = (13, lb)) (hlb : lb ≤ 1000) (hb5 : b ≠ 5) (h2 : to ≤ 40) (hm : m ≤ 40) (hml : m ≤ lb) (htm : to ≤ m) (hS : 0 < S) (hS2 : S ≤ 100000) (hr : ∀ i, i < m → rem i < S) (hz : ∀ i, i < m → ¬ (lo' ≤ i ∧ i < to) → rem i = 0) (hR : R < 1000000) : ∀ (r t : Nat) (c sh : Nat → Nat) (I' : sI), t + r = R → gvI m S base rem r c sh → (∀ i, i < m → I' b i = nI (sh i)) → (∀ i, lo' ≤ i → i < to → I' 5 i = nI (c i - 1)) → (∀ I2, (∀ i, i < m → I2 b i = nI (gv m r c sh i)) → (∀ a k, a ≠ b → a ≠ 5 → I2 a k = I' a k) → FV I2 J) → Ok G (d + 1) mX2_share 134 [some (.ref 4), none, none, none, some (.ref b), none, some (.int (nI lo')), some (.int (nI to)), some (.int (nI R)), some (.int (nI t)), none] [] I' J P K n (kV P K n FV) := by
  intro r
  induction r with
  | zero =>
    intro t c sh I' ht g hI h5 h
    exact bX2_share_134 hX b _ _ _ _ (br_t (nI_le (by omega) (by omega)) (h I' hI (fun _ _ _ _ => rfl)))
  | succ r ih =>
    intro t c sh I' ht g hI h5 h
    have pk := gvI_pick hS g
    have stp := gvI_step hS hr g
    have cb : ∀ i, i < m → c i ≤ S ∧ (c i = 0 → 0 < rem i) ∧ (0 < c i → c i = rem i + 1) := fun i hi => by
      have := hr i hi
      rcases g.1 i hi with ⟨e1, e2, e3⟩ | ⟨e1, e2⟩
      · exact ⟨by omega, fun _ => e2, fun q => by omega⟩
      · exact ⟨by omega, fun q => by omega, fun _ => e1⟩
    have amr : lo' ≤ amx c m ∧ amx c m < to := by
      rcases Classical.em (lo' ≤ amx c m ∧ amx c m < to) with q | q
      · exact q
      · have := hz _ pk.1 q; omega
    refine bX2_share_134 hX b _ _ _ _ (br_f (nI_ge (by omega) (by omega)) ?_)
    refine C_giveMost (left := fun i => c i - 1) hX kb hlb (by omega) h2 (by omega) (fun k k1 k2 => ⟨h5 k k1 k2, by have := (cb k (by omega)).1; show c k - 1 < _; omega⟩) (fun q q1 q2 q3 q4 => ?_)
    have lq : 1 ≤ c q - 1 := by have := q3 (amx c m) amr.1 amr.2; omega
    have eq : amx c m = q := by
      refine amx_uniq (by omega) (fun i hi => ?_) (fun i hi => ?_)
      · rcases Classical.em (lo' ≤ i ∧ i < to) with z | z
        · have := q3 i z.1 z.2; omega
        · have z1 := hz i hi z
          have := cb i hi; omega
      · rcases Classical.em (lo' ≤ i ∧ i < to) with z | z
        · have := q4 i z.1 hi; omega
        · have z1 := hz i (by omega) z
          have := cb i (by omega); omega
    rw [eq] at stp
    rw [hI q (by omega), nI_1, nI_1]
    refine ih (t + 1) (up c q 0) (up sh q (sh q + 1)) _ (by omega) stp (fun i hi => ?_) (fun i i1 i2 => ?_) (fun I2 g1 g2 => h I2 (fun i hi => ?_) (fun a k a1 a2 => ?_))
    · rw [u2_a _ _ _ _ hb5]
      by_cases e : i = q
      · subst e; rw [u2_s, up_s]
      · rw [u2_k _ _ _ _ e, up_n _ _ e]; exact hI i hi
    · by_cases e : i = q
      · subst e; rw [u2_s, up_s]; rfl
      · rw [u2_k _ _ _ _ e, up_n _ _ e, u2_a _ _ _ _ (Ne.symm hb5)]; exact h5 i i1 i2
    · simp only [gv]; rw [eq]; exact g1 i hi
    · rw [g2 a k a1 a2, u2_a _ _ _ _ a2, u2_a _ _ _ _ a1]
/-- the first and behind the last that is not 0 -/
def fr0 (own : Nat → Nat) (m j : Nat) : Nat := match lo own j with
  | none => m
  | some v => v
def to0 (own : Nat → Nat) (j : Nat) : Nat := match hi own j with
  | none => 0
  | some v => v + 1
theorem lo_succ {f : Nat → Nat} {j : Nat} : lo f (j + 1) = (match lo f j with | some v => some v | none => if 0 < f j then some j else none) := rfl
theorem hi_succ {f : Nat → Nat} {j : Nat} : hi f (j + 1) = if 0 < f j then some j else hi f j := rfl
theorem hi_all {f : Nat → Nat} : ∀ {m : Nat} {k : Nat}, k < m → 0 < f k → ∃ v, hi f m = some v ∧ k ≤ v := by
  intro m
  induction m with
  | zero => intro k h; omega
  | succ m ih =>
    intro k h1 h2
    rw [hi_succ]
    by_cases e : 0 < f m
    · exact ⟨m, if_pos e, by omega⟩
    · rw [if_neg e]
      have : k ≠ m := fun q => e (q ▸ h2)
      exact ih (by omega) h2
theorem lo_all {f : Nat → Nat} : ∀ {m : Nat} {k : Nat}, k < m → 0 < f k → ∃ v, lo f m = some v ∧ v ≤ k := by
  intro m
  induction m with
  | zero => intro k h; omega
  | succ m ih =>
    intro k h1 h2
    rw [lo_succ]
    cases e : lo f m with
    | some v =>
      refine ⟨v, rfl, ?_⟩
      by_cases q : k = m
      · have := (lo_lt e).1; omega
      · obtain ⟨u, e2, e3⟩ := ih (k := k) (by omega) h2
        rw [e] at e2; cases e2; exact e3
    | none =>
      by_cases q : k = m
      · subst q; exact ⟨k, if_pos h2, Nat.le_refl _⟩
      · obtain ⟨u, e2, -⟩ := ih (k := k) (by omega) h2
        rw [e] at e2; cases e2
theorem C_share {a b la lb m x : Nat} {own : Nat → Nat} (hX : shX P K) (ka : K a = (13, la)) (kb : K b = (13, lb)) (hla : la ≤ 1000) (hlb : lb ≤ 1000) (hma : m ≤ la) (hmb : m ≤ lb) (hm : m ≤ 40) (hab : a ≠ b) (ha5 : a ≠ 5) (hb5 : b ≠ 5) (hO : ∀ i, i < m → I a i = nI (own i)) (hx : x ≤ sm own m) (hs : sm own m ≤ 20000) (h : ∀ I', (∀ i, i < m → I' b i = nI (shr own m x i)) → (∀ c k, c ≠ b → c ≠ 5 → I' c k = I c k) → FV I' J) : ckV G (d + 1) mX2_share [.ref 4, .ref a, .int (nI m), .int (nI x), .ref b] I J P K n FV := by
  refine bX2_share_0 a _ _ b (C_fill 0 kb (by omega) ?_)
  generalize hB : wr I b 0 lb (fun _ => (0 : Int32)) = B
  have b1 : ∀ k, k < lb → B b k = 0 := fun k hk => by
    have := wr_in I b 0 lb (fun _ => (0 : Int32)) hk
    rw [Nat.zero_add, hB] at this; exact this
  have b2 : ∀ c k, c ≠ b → B c k = I c k := fun c k hc => by rw [← hB]; exact wr_a _ _ _ _ _ hc
  have hO' : ∀ i, i < m → B a i = nI (own i) := fun i hi => (b2 a i hab).trans (hO i hi)
  have own_le : ∀ i, i < m → own i ≤ sm own m := fun i hi => sm_mem hi
  have sm_le' : ∀ j, j ≤ m → sm own j ≤ sm own m := fun j hj => sm_mono hj
  have key := loopN m (fun j => Ok G (d + 1) mX2_share 18 [some (.ref 4), some (.ref a), some (.int (nI m)), some (.int (nI x)), some (.ref b), some (.int (nI (sm own j))), some (.int (nI (fr0 own m j))), some (.int (nI (to0 own j))), some (.int (nI j)), none, none] [] B J P K n (kV P K n FV)) ?_ ?_ 0 (by omega)
  · exact key
  · refine bX2_share_18 a _ _ b _ _ _ _ (br_t (nI_le (Nat.le_refl _) (by omega)) ?_)
    have zero : shr own m x = (fun _ => 0) → FV B J := fun e => h B (fun i hi => by rw [e, b1 i (by omega)]; rfl) (fun c k c1 _ => b2 c k c1)
    have x0 : x = 0 → FV B J := fun e => zero (by unfold shr; rw [if_pos e])
    by_cases es : sm own m = 0
    · rw [es]; exact br_t (by decide) (x0 (by omega))
    · refine br_f (nI_nle (by omega) (by omega)) ?_
      by_cases ex : x = 0
      · exact br_f (by rw [ex]; decide) (x0 ex)
      · refine br_t (nI_lt (a := 0) (by omega) (by omega)) ?_
        have hS : 0 < sm own m := by omega
        have hr := shR_lt (own := own) (m := m) (n := x) hS
        obtain ⟨k0, k1, k2⟩ := sm_pos hS
        obtain ⟨u, hu, -⟩ := lo_all k1 k2
        obtain ⟨v, hv, -⟩ := hi_all k1 k2
        have hf : fr0 own m m = u := by unfold fr0; rw [hu]
        have ht : to0 own m = v + 1 := by unfold to0; rw [hv]
        have lu := lo_lt hu
        have lv := hi_lt hv
        have huv : u ≤ v := by
          obtain ⟨v', e1, e2⟩ := hi_all lu.1 lu.2
          rw [hv] at e1; cases e1; exact e2
        rw [hf, ht]
        have z : ∀ i, i < m → ¬ (u ≤ i ∧ i < v + 1) → own i = 0 := fun i hi q => by
          rcases Nat.eq_zero_or_pos (own i) with e | e
          · exact e
          · obtain ⟨u', e1, e2⟩ := lo_all hi e
            obtain ⟨v', e3, e4⟩ := hi_all hi e
            rw [hu] at e1; cases e1
            rw [hv] at e3; cases e3
            exact absurd ⟨e2, by omega⟩ q
        have zB : ∀ i, i < m → ¬ (u ≤ i ∧ i < v + 1) → srB own m x i = 0 ∧ srR own m x i = 0 := fun i hi q => by
          unfold srB srR; rw [z i hi q]; simp
        have hBle : ∀ i, i < m → srB own m x i ≤ x := fun i hi => by
          unfold srB
          refine Nat.div_le_of_le_mul ?_
          exact Nat.mul_le_mul_right _ (own_le i hi)
        have hpr : ∀ i, i < m → own i * x < 2147483648 := fun i hi => by
          have h1 : own i * x ≤ 20000 * 20000 := Nat.mul_le_mul (by have := own_le i hi; omega) (by omega)
          omega
        have key2 := loopN (v + 1 - u) (fun j => ∀ I', (∀ k, k < m → k < u + j → I' b k = nI (srB own m x k)) → (∀ k, k < m → u + j ≤ k → I' b k = 0) → (∀ k, u ≤ k → k < u + j → I' 5 k = nI (srR own m x k)) → (∀ c k, c ≠ b → c ≠ 5 → I' c k = I c k) → Ok G (d + 1) mX2_share 78 [some (.ref 4), some (.ref a), none, some (.int (nI x)), some (.ref b), some (.int (nI (sm own m))), some (.int (nI u)), some (.int (nI (v + 1))), some (.int (nI (x - sm (srB own m x) (u + j)))), some (.int (nI (u + j))), none] [] I' J P K n (kV P K n FV)) ?_ ?_ 0 (by omega)
        · have k3 := key2 B (fun k k1 k2 => ?_) (fun k k1 _ => b1 k (by omega)) (fun k k1 k2 => by omega) (fun c k c1 _ => b2 c k c1)
          · have e0 : sm (srB own m x) (u + 0) = 0 := sm_eq0.mpr (fun k hk => (zB k (by omega) (by omega)).1)
            rw [e0, Nat.sub_zero, Nat.add_zero] at k3
            exact k3
          · rw [b1 k (by omega), (zB k k1 (by omega)).1]; rfl
        · intro I' p1 p2 p3 p4
          have eu : u + (v + 1 - u) = v + 1 := by omega
          rw [eu] at p1 p2 p3 ⊢
          refine bX2_share_78 hX a _ b _ _ _ _ _ (br_t (nI_le (Nat.le_refl _) (by omega)) ?_)
          have es2 : sm (srB own m x) (v + 1) = sm (srB own m x) m := by
            obtain ⟨w, hw⟩ : ∃ w, m = v + 1 + w := ⟨m - (v + 1), by omega⟩
            have s1 := sm_split (srB own m x) (v + 1) w
            have s2 : sm (fun k => srB own m x (v + 1 + k)) w = 0 := sm_eq0.mpr (fun k hk => (zB (v + 1 + k) (by omega) (by omega)).1)
            rw [s2, ← hw] at s1
            exact s1.symm
          rw [es2]
          have eL : x - sm (srB own m x) m = srL own m x := rfl
          rw [eL]
          have hle := sh_le (n := x) hS
          refine C_give (d := d) (m := m) (S := sm own m) (base := srB own m x) (rem := srR own m x) hX kb hlb hb5 (by omega) hm hmb (by omega) hS (by omega) hr (fun i hi q => (zB i hi q).2) (by unfold srL; omega) (srL own m x) 0 (fun i => srR own m x i + 1) (srB own m x) I' (by omega) (sh_init hS) (fun i hi => ?_) (fun i i1 i2 => ?_) (fun I2 g1 g2 => h I2 (fun i hi => ?_) (fun c k c1 c2 => ?_))
          · by_cases q : i < v + 1
            · exact p1 i hi q
            · rw [p2 i hi (by omega), (zB i hi (by omega)).1]; rfl
          · rw [p3 i i1 i2]; rfl
          · rw [g1 i hi]
            unfold shr; rw [if_neg ex]
          · rw [g2 c k c1 c2]; exact p4 c k c1 c2
        · intro j hj ih I' p1 p2 p3 p4
          have hjm : u + j < m := by omega
          refine bX2_share_78 hX a _ b _ _ _ _ _ (br_f (nI_ge (by omega) (by omega)) ?_)
          rw [ka, kb]
          have v1 : vp_in (nI (u + j)) la := nI_inN (by omega) (by omega)
          have v2 : vp_in (nI (u + j)) lb := nI_inN (by omega) (by omega)
          have v3 : vp_in (nI (u + j)) 40 := nI_inN (by omega) (by decide)
          have ne := nI_ne0 (n := sm own m) hS (by omega)
          refine ⟨rfl, v1, ne, rfl, v2, ne, v3, rfl, v2, ?_⟩
          have ea : I' a (u + j) = nI (own (u + j)) := (p4 a _ hab ha5).trans (hO _ hjm)
          have hp := hpr _ hjm
          rw [nI_ck (by omega), ea, i_mul, i_rem hp hS (by omega), i_div hp hS (by omega), u2_a _ _ _ _ hb5, u2_s, nI_1]
          have hsum : sm (srB own m x) (u + (j + 1)) = sm (srB own m x) (u + j) + srB own m x (u + j) := rfl
          have hle : sm (srB own m x) (u + (j + 1)) ≤ x := Nat.le_trans (sm_mono (by omega)) (sh_le (n := x) hS)
          have e1 : nI (x - sm (srB own m x) (u + j)) - nI (own (u + j) * x / sm own m) = nI (x - sm (srB own m x) (u + (j + 1))) := by
            have e2 : own (u + j) * x / sm own m = srB own m x (u + j) := rfl
            rw [e2, i_sub (by omega)]
            congr 1; omega
          rw [e1]
          refine ih _ (fun k k1 k2 => ?_) (fun k k1 k2 => ?_) (fun k k1 k2 => ?_) (fun c k c1 c2 => ?_)
          · rw [u2_a _ _ _ _ hb5]
            by_cases e : k = u + j
            · subst e; rw [u2_s]; rfl
            · rw [u2_k _ _ _ _ e]; exact p1 k k1 (by omega)
          · rw [u2_a _ _ _ _ hb5, u2_k _ _ _ _ (by omega)]; exact p2 k k1 (by omega)
          · by_cases e : k = u + j
            · subst e; rw [u2_s]; rfl
            · rw [u2_k _ _ _ _ e, u2_a _ _ _ _ (Ne.symm hb5)]; exact p3 k k1 (by omega)
          · rw [u2_a _ _ _ _ c2, u2_a _ _ _ _ c1]; exact p4 c k c1 c2
  · intro j hj ih
    have ho := own_le j hj
    refine bX2_share_18 a _ _ b _ _ _ _ (br_f (nI_ge hj (by omega)) ?_)
    rw [ka]
    refine ⟨rfl, nI_inN (by show j < la; omega) (by show la ≤ _; omega), ?_⟩
    rw [nI_ck (by omega), hO' j hj]
    by_cases e : 0 < own j
    · refine br_f (nI_nle e (by omega)) ⟨rfl, nI_inN (by show j < la; omega) (by show la ≤ _; omega), ?_⟩
      rw [i_add, nI_1]
      have et : to0 own (j + 1) = j + 1 := by unfold to0; rw [hi_succ, if_pos e]
      rw [et] at ih
      have ef : (if nI j < nI (fr0 own m j) then nI j else nI (fr0 own m j)) = nI (fr0 own m (j + 1)) := by
        unfold fr0
        rw [lo_succ]
        cases e2 : lo own j with
        | none => simp only; rw [if_pos (nI_lt hj (by omega)), if_pos e]
        | some v =>
          have := (lo_lt e2).1
          simp only
          rw [if_neg (nI_nlt (by omega) (by omega))]
      rw [ef]
      exact ih
    · have e0 : own j = 0 := by omega
      refine br_t (by rw [e0]; decide) ?_
      rw [nI_1]
      have es : sm own (j + 1) = sm own j := by simp only [sm]; omega
      have et : to0 own (j + 1) = to0 own j := by unfold to0; rw [hi_succ, if_neg e]
      have ef : fr0 own m (j + 1) = fr0 own m j := by
        unfold fr0
        rw [lo_succ]
        cases e2 : lo own j with
        | none => simp only; rw [if_neg e]
        | some v => rfl
      rw [es, et, ef] at ih
      exact ih
end Share
