/-! the most that so many casks have -/
def bst (g : Nat → Nat) : Nat → Nat
  | 0 => 0
  | k + 1 => if g (bst g k) < g k then k else bst g k
theorem bst_lt (g : Nat → Nat) : ∀ m, 0 < m → bst g m < m
  | 0, h => by omega
  | 1, _ => by simp [bst]
  | m + 2, _ => by
    have := bst_lt g (m + 1) (by omega)
    show (if g (bst g (m + 1)) < g (m + 1) then m + 1 else bst g (m + 1)) < m + 2
    split <;> omega
theorem bst_max (g : Nat → Nat) {m : Nat} : ∀ k, k < m → g k ≤ g (bst g m) := by
  induction m with
  | zero => intro k hk; omega
  | succ m ih =>
    intro k hk
    show g k ≤ g (if g (bst g m) < g m then m else bst g m)
    by_cases q : k = m
    · subst q; split <;> omega
    · have := ih k (by omega)
      split <;> omega
theorem bst_congr {g g' : Nat → Nat} {m : Nat} (h : ∀ k, k < m → g k = g' k) : bst g m = bst g' m := by
  induction m with
  | zero => rfl
  | succ m ih =>
    have ih := ih (fun k hk => h k (by omega))
    show (if g (bst g m) < g m then m else bst g m) = if g' (bst g' m) < g' m then m else bst g' m
    rw [ih, h m (by omega)]
    have e : g (bst g' m) = g' (bst g' m) := by
      by_cases q : m = 0
      · subst q; exact h 0 (by omega)
      · have := bst_lt g' m (by omega)
        exact h _ (by omega)
    rw [e]
def tpF (m : Nat) (p : Nat × (Nat → Nat)) : Nat × (Nat → Nat) := (p.1 + p.2 (bst p.2 m), up p.2 (bst p.2 m) 0)
def tpi (m i : Nat) (p : Nat × (Nat → Nat)) : Nat × (Nat → Nat) := it (fun _ p => tpF m p) i p
def mst (f : Nat → Nat) (m many : Nat) : Nat := (tpi m (if many ≤ m then many else m) (0, f)).1
theorem tpi_succ (m i : Nat) (p : Nat × (Nat → Nat)) : tpi m (i + 1) p = tpF m (tpi m i p) := rfl
theorem tpi_front (m : Nat) : ∀ i p, tpi m (i + 1) p = tpi m i (tpF m p)
  | 0, p => rfl
  | i + 1, p => by
    rw [tpi_succ, tpi_front m i p]
    rfl
theorem sm_up {g : Nat → Nat} {m b x : Nat} (h : b < m) : sm (up g b x) m + g b = sm g m + x := sm_upd h
theorem tpi_sum {m : Nat} (f : Nat → Nat) (i : Nat) (hm : 0 < m) : (tpi m i (0, f)).1 + sm (tpi m i (0, f)).2 m = sm f m := by
  induction i with
  | zero => exact Nat.zero_add _
  | succ i ih =>
    rw [tpi_succ]
    obtain ⟨p, hp⟩ : ∃ p, tpi m i (0, f) = p := ⟨_, rfl⟩
    rw [hp] at ih ⊢
    have := sm_up (g := p.2) (x := 0) (bst_lt p.2 m hm)
    show p.1 + p.2 (bst p.2 m) + sm (up p.2 (bst p.2 m) 0) m = _
    omega
theorem mst_le {f : Nat → Nat} {m many : Nat} : mst f m many ≤ sm f m := by
  unfold mst
  by_cases q : m = 0
  · subst q
    have e : (if many ≤ 0 then many else 0) = 0 := by split <;> omega
    rw [e]
    exact Nat.zero_le _
  · have := tpi_sum f (if many ≤ m then many else m) (m := m) (by omega)
    omega
/-- the greatest of all choices -/
def szB (S : Nat → Bool) (m : Nat) : Nat := sm (fun k => if S k then 1 else 0) m
def suB (S : Nat → Bool) (g : Nat → Nat) (m : Nat) : Nat := sm (fun k => if S k then g k else 0) m
def rmB (S : Nat → Bool) (c : Nat) : Nat → Bool := fun k => S k && decide (k ≠ c)
theorem szB_rm {S : Nat → Bool} {m c : Nat} (hc : c < m) (h : S c = true) : szB (rmB S c) m + 1 = szB S m := by
  have := sm_upd (f := fun k => if S k then 1 else 0) (n := m) (k := c) (v := 0) hc
  simp only [h, if_true] at this
  unfold szB
  rw [show sm (fun k => if rmB S c k = true then 1 else 0) m = sm (fun i => if i = c then 0 else if S i = true then 1 else 0) m from sm_congr (fun k _ => by
    unfold rmB
    by_cases q : k = c
    · simp [q]
    · simp [q])]
  omega
theorem suB_rm {S : Nat → Bool} {g : Nat → Nat} {m c : Nat} (hc : c < m) (h : S c = true) : suB (rmB S c) g m + g c = suB S g m := by
  have := sm_upd (f := fun k => if S k then g k else 0) (n := m) (k := c) (v := 0) hc
  simp only [h, if_true] at this
  unfold suB
  rw [show sm (fun k => if rmB S c k = true then g k else 0) m = sm (fun i => if i = c then 0 else if S i = true then g i else 0) m from sm_congr (fun k _ => by
    unfold rmB
    by_cases q : k = c
    · simp [q]
    · simp [q])]
  omega
theorem tpi_best {m : Nat} (hm : 0 < m) : ∀ (i : Nat) (g : Nat → Nat) (S : Nat → Bool) (t : Nat), szB S m ≤ i → t + suB S g m ≤ (tpi m i (t, g)).1 := by
  intro i
  induction i with
  | zero =>
    intro g S t h
    have h0 := sm_eq0.mp (Nat.le_zero.mp h)
    have e : suB S g m = 0 := sm_eq0.mpr (fun k hk => by
      have := h0 k hk
      by_cases q : S k = true
      · simp [q] at this
      · simp [q])
    rw [e]
    exact Nat.le_refl _
  | succ i ih =>
    intro g S t h
    rw [tpi_front]
    show t + suB S g m ≤ (tpi m i (t + g (bst g m), up g (bst g m) 0)).1
    have hb := bst_lt g m hm
    obtain ⟨b, eb⟩ : ∃ b, bst g m = b := ⟨_, rfl⟩
    rw [eb] at hb ⊢
    have hmx : ∀ k, k < m → g k ≤ g b := fun k hk => eb ▸ bst_max g k hk
    have eqU : ∀ S' : Nat → Bool, S' b = false → suB S' (up g b 0) m = suB S' g m := fun S' hS => sm_congr (fun k _ => by
      by_cases q : k = b
      · subst q; simp [hS]
      · rw [up_n _ _ q])
    by_cases q : S b = true
    · have h1 := szB_rm hb q
      have h2 := suB_rm (g := g) hb q
      have h3 := ih (up g b 0) (rmB S b) (t + g b) (by omega)
      rw [eqU _ (by simp [rmB])] at h3
      omega
    · by_cases q2 : szB S m = 0
      · have h3 := ih (up g b 0) S (t + g b) (by omega)
        rw [eqU _ (by simpa using q)] at h3
        omega
      · obtain ⟨c, hc, hc2⟩ := sm_pos (f := fun k => if S k then 1 else 0) (n := m) (by unfold szB at q2; omega)
        have hS : S c = true := by
          by_cases q3 : S c = true
          · exact q3
          · simp [q3] at hc2
        have h1 := szB_rm hc hS
        have h2 := suB_rm (g := g) hc hS
        have h3 := ih (up g b 0) (rmB S c) (t + g b) (by omega)
        rw [eqU _ (by simp only [rmB]; simp [q])] at h3
        have := hmx c hc
        omega
theorem szB_le (S : Nat → Bool) (m : Nat) : szB S m ≤ m := by
  have := sm_bound (f := fun k => if S k then 1 else 0) (n := m) (c := 1) (fun k _ => by split <;> omega)
  unfold szB
  omega
theorem mst_best {f : Nat → Nat} {m many : Nat} {S : Nat → Bool} (h : szB S m ≤ many) : suB S f m ≤ mst f m many := by
  by_cases q : m = 0
  · subst q; exact Nat.zero_le _
  · have := tpi_best (m := m) (by omega) (if many ≤ m then many else m) f S 0 (by have := szB_le S m; split <;> omega)
    unfold mst
    omega
section ModMost
variable {G : gG} {d : Nat} {I : sI} {J : sJ} {P : sP} {K : sK} {n : Nat} {F : Int32 → sI → sJ → Prop} {FV : sI → sJ → Prop} {hd so : Nat → Nat}
def unB (x : Int32) (f : Nat → Nat) (k : Nat) : Nat := if bit x k then 0 else f k
def bQ (x : Int32) (f : Nat → Nat) (j : Nat) (y : Int32) : Prop := (y = -1 ∧ ∀ k, k < j → bit x k = true) ∨ ∃ b, y = nI b ∧ b < j ∧ bit x b = false ∧ f b = unB x f (bst (unB x f) j) ∧ (0 < unB x f (bst (unB x f) j) → b = bst (unB x f) j)
theorem bst_s (g : Nat → Nat) (j : Nat) : bst g (j + 1) = if g (bst g j) < g j then j else bst g j := rfl
theorem bQ_taken {x : Int32} {f : Nat → Nat} {j : Nat} {y : Int32} (h : bQ x f j y) (hb : bit x j = true) : bQ x f (j + 1) y := by
  have e : unB x f j = 0 := by simp [unB, hb]
  have e2 : bst (unB x f) (j + 1) = bst (unB x f) j := by rw [bst_s, e, if_neg (by omega)]
  rcases h with ⟨h1, h2⟩ | ⟨b, h1, h2, h3, h4, h5⟩
  · refine Or.inl ⟨h1, fun k hk => ?_⟩
    by_cases q : k = j
    · rw [q]; exact hb
    · exact h2 k (by omega)
  · rw [← e2] at h4 h5
    exact Or.inr ⟨b, h1, by omega, h3, h4, h5⟩
theorem bQ_none {x : Int32} {f : Nat → Nat} {j : Nat} (h : ∀ k, k < j → bit x k = true) (hb : bit x j = false) : bQ x f (j + 1) (nI j) := by
  have e : unB x f j = f j := by simp [unB, hb]
  refine Or.inr ⟨j, rfl, by omega, hb, ?_⟩
  rw [bst_s]
  by_cases q : unB x f (bst (unB x f) j) < unB x f j
  · rw [if_pos q]; exact ⟨e.symm, fun _ => rfl⟩
  · rw [if_neg q]
    by_cases q2 : j = 0
    · subst q2; exact ⟨e.symm, fun _ => rfl⟩
    · have e0 : unB x f (bst (unB x f) j) = 0 := by
        have := h _ (bst_lt (unB x f) j (by omega))
        simp [unB, this]
      rw [e0] at q ⊢
      exact ⟨by omega, fun g => by omega⟩
theorem bQ_stay {x : Int32} {f : Nat → Nat} {j b : Nat} (h : b < j ∧ bit x b = false ∧ f b = unB x f (bst (unB x f) j) ∧ (0 < unB x f (bst (unB x f) j) → b = bst (unB x f) j)) (hb : bit x j = false) (hc : f j ≤ f b) : bQ x f (j + 1) (nI b) := by
  have e : unB x f j = f j := by simp [unB, hb]
  obtain ⟨h2, h3, h4, h5⟩ := h
  have e2 : bst (unB x f) (j + 1) = bst (unB x f) j := by rw [bst_s, e, if_neg (by omega)]
  rw [← e2] at h4 h5
  exact Or.inr ⟨b, rfl, by omega, h3, h4, h5⟩
theorem bQ_new {x : Int32} {f : Nat → Nat} {j b : Nat} (h : f b = unB x f (bst (unB x f) j)) (hb : bit x j = false) (hc : f b < f j) : bQ x f (j + 1) (nI j) := by
  have e : unB x f j = f j := by simp [unB, hb]
  have e2 : bst (unB x f) (j + 1) = j := by rw [bst_s, e, if_pos (by omega)]
  exact Or.inr ⟨j, rfl, by omega, hb, by rw [e2, e], fun _ => e2.symm⟩
theorem bit_set (x : Int32) {b k : Nat} (hb : b < 20) (hk : k < 20) : bit (x ||| (1 <<< (nI b &&& 31))) k = (bit x k || decide (k = b)) := by
  rw [bit_or, bit_one b hb k hk]
theorem bQ_next {x : Int32} {f : Nat → Nat} {m b : Nat} (hm : m ≤ 20) (h : b < m ∧ bit x b = false ∧ f b = unB x f (bst (unB x f) m) ∧ (0 < unB x f (bst (unB x f) m) → b = bst (unB x f) m)) {k : Nat} (hk : k < m) : up (unB x f) (bst (unB x f) m) 0 k = unB (x ||| (1 <<< (nI b &&& 31))) f k := by
  obtain ⟨h1, h2, h3, h4⟩ := h
  have hmx := bst_max (unB x f) k hk
  unfold unB at hmx ⊢
  rw [bit_set x (by omega) (by omega)]
  rcases Nat.eq_zero_or_pos (unB x f (bst (unB x f) m)) with q | q
  · have e0 : unB x f k = 0 := by have := bst_max (unB x f) k hk; omega
    have e1 : up (unB x f) (bst (unB x f) m) 0 k = 0 := by
      unfold up
      split
      · rfl
      · exact e0
    have e2 : (if (bit x k || decide (k = b)) = true then 0 else f k) = 0 := by
      unfold unB at e0
      cases e3 : bit x k
      · rw [e3] at e0
        have e4 : f k = 0 := e0
        rw [e4]; split <;> rfl
      · simp
    exact e1.trans e2.symm
  · have e := h4 q
    have e1 : up (unB x f) (bst (unB x f) m) 0 k = if (bit x k || decide (k = b)) = true then 0 else f k := by
      rw [← e]
      by_cases q2 : k = b
      · subst q2; rw [up_s]; simp
      · rw [up_n _ _ q2]; simp [q2, unB]
    exact e1
theorem M_mostBelow {m many a : Nat} (hM : shM P K) (R : rM I hd so) (w : wf hd so) (hm : m ≤ hd 1) (hmany : many ≤ 1000) (ha : a < 40) (h : F (nI (mst (odl so a) m many)) I J) : ckI G (d + 2) mX12_mostBelow [.ref 91, .int (nI m), .int (nI many), .int (nI a)] I J P K n F := by
  have hc := wf_casks w
  have hod : ∀ k, k < hd 1 → odl so a k ≤ 400 := fun k hk => Nat.le_trans (sm_le (f := fun v => if v + a ≤ so 0 then wn so k v else 0) (g := wn so k) (fun v _ => by split <;> omega)) (wf_ltr w hk)
  obtain ⟨N, hN⟩ : ∃ N, (if many ≤ m then many else m) = N := ⟨_, rfl⟩
  have hN1 : N ≤ m := by rw [← hN]; split <;> omega
  have key := loopN N (fun i => ∀ x : Int32, szB (bit x) m = i → (∀ k, k < m → (tpi m i (0, odl so a)).2 k = unB x (odl so a) k) → Ok G (d + 2) mX12_mostBelow 9 [some (.ref 91), some (.int (nI m)), some (.int (nI many)), some (.int (nI a)), some (.int x), some (.int (nI (tpi m i (0, odl so a)).1)), some (.int (nI i)), none, none] [] I J P K n (kI P K n F)) ?_ ?_ 0 (by omega)
  · exact bX12_mostBelow_0 _ _ _ (key 0 (sm_eq0.mpr (fun k _ => by simp [bit_0])) (fun k hk => by simp [unB, bit_0]; rfl))
  · intro x _ _
    refine bX12_mostBelow_9 _ _ _ _ _ _ ?_
    unfold mst at h
    rw [hN] at h
    by_cases q : many ≤ N
    · exact br_t (nI_le q (by omega)) h
    · have : m ≤ N := by rw [← hN]; rw [if_neg (by intro g; rw [if_pos g] at hN; omega)]; exact Nat.le_refl _
      exact br_f (nI_ge (by omega) (by omega)) (br_t (nI_le this (by omega)) h)
  · intro i hi ih x hx hg
    have hi2 : i < many := by rw [← hN] at hi; split at hi <;> omega
    refine bX12_mostBelow_9 _ _ _ _ _ _ (br_f (nI_ge hi2 (by omega)) (br_f (nI_ge (by omega) (by omega)) ?_))
    have key2 := loopN m (fun j => ∀ y : Int32, bQ x (odl so a) j y → Ok G (d + 2) mX12_mostBelow 27 [some (.ref 91), some (.int (nI m)), some (.int (nI many)), some (.int (nI a)), some (.int x), some (.int (nI (tpi m i (0, odl so a)).1)), some (.int (nI i)), some (.int y), some (.int (nI j))] [] I J P K n (kI P K n F)) ?_ ?_ 0 (by omega)
    · exact key2 (-1) (Or.inl ⟨rfl, fun k hk => by omega⟩)
    · intro y hy
      rcases hy with ⟨h1, h2⟩ | ⟨b, rfl, hb⟩
      · exfalso
        have : szB (bit x) m = m := by
          have e : szB (bit x) m = sm (fun _ => 1) m := sm_congr (fun k hk => by simp [h2 k hk])
          rw [e, sm_const]; omega
        omega
      · refine bX12_mostBelow_27 hM _ _ _ _ _ _ _ _ (br_t (nI_le (Nat.le_refl _) (by omega)) (M_olderIn hM R w (by omega) ha ?_))
        have eg : bst (tpi m i (0, odl so a)).2 m = bst (unB x (odl so a)) m := bst_congr hg
        have hbl := bst_lt (unB x (odl so a)) m (by omega)
        have e1 : (tpi m (i + 1) (0, odl so a)).1 = (tpi m i (0, odl so a)).1 + odl so a b := by
          rw [tpi_succ]
          show _ + (tpi m i (0, odl so a)).2 (bst (tpi m i (0, odl so a)).2 m) = _
          rw [eg, hg _ hbl, ← hb.2.2.1]
        have ih2 := ih (x ||| (1 <<< (nI b &&& 31))) ?_ (fun k hk => ?_)
        · rw [e1, ← i_add, ← nI_1] at ih2
          exact ih2
        · have e2 : szB (bit (x ||| (1 <<< (nI b &&& 31)))) m = szB (fun k => bit x k || decide (k = b)) m := sm_congr (fun k hk => by rw [bit_set x (by omega) (by omega)])
          have e3 : szB (rmB (fun k => bit x k || decide (k = b)) b) m + 1 = szB (fun k => bit x k || decide (k = b)) m := szB_rm hb.1 (by simp)
          have e4 : szB (rmB (fun k => bit x k || decide (k = b)) b) m = szB (bit x) m := sm_congr (fun k _ => by
            unfold rmB
            by_cases q : k = b
            · subst q; simp [hb.2.1]
            · simp [q])
          omega
        · rw [tpi_succ]
          show up (tpi m i (0, odl so a)).2 (bst (tpi m i (0, odl so a)).2 m) 0 k = _
          rw [← bQ_next (by omega) hb hk, eg]
          unfold up
          split
          · rfl
          · exact hg k hk
    · intro j hj ih2 y hy
      refine bX12_mostBelow_27 hM _ _ _ _ _ _ _ _ (br_f (nI_ge hj (by omega)) (M_has _ (by omega) ?_))
      rw [nI_1 j]
      refine b01n (fun e => ?_) (fun e => ih2 y (bQ_taken hy e))
      rcases hy with ⟨h1, h2⟩ | ⟨b, rfl, hb⟩
      · exact br_t h1 (ih2 _ (bQ_none h2 e))
      · have hbo := hod b (by omega)
        have hjo := hod j (by omega)
        refine br_f (fun g => ?_) (M_olderIn hM R w (by omega) ha (M_olderIn hM R w (by omega) ha ?_))
        · exact nI_pos (n := b) (by omega) (by rw [g]; decide)
        · by_cases q : odl so a j ≤ odl so a b
          · exact br_t (nI_le q (by omega)) (ih2 _ (bQ_stay hb e q))
          · exact br_f (nI_ge (by omega) (by omega)) (ih2 _ (bQ_new hb.2.2.1 e (by omega)))
end ModMost
