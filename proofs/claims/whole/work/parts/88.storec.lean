/-! the class: store -/
section StoreC
variable {G : gG} {d : Nat} {I : sI} {J : sJ} {P : sP} {K : sK} {n : Nat} {F : Int32 → sI → sJ → Prop} {FV : sI → sJ → Prop} {hd so : Nat → Nat} {c l : Nat} {f : Nat → Nat}
theorem tpi_le {m i : Nat} (hf : ∀ k, k < m → f k ≤ 400) (hm : 0 < m) : ∀ k, k < m → (tpi m i (0, f)).2 k ≤ 400 := by
  induction i with
  | zero => exact hf
  | succ i ih =>
    intro k hk
    rw [tpi_succ]
    unfold tpF
    simp only
    unfold up
    split
    · omega
    · exact ih k hk
theorem C_mostOf {m many : Nat} (hX : shX P K) (hm : m ≤ 20) (hmany : many ≤ 1000) (hf : ∀ k, k < m → I 19 k = nI (f k)) (hb : ∀ k, k < m → f k ≤ 400) (h : ∀ I', (∀ a k, a ≠ 20 → I' a k = I a k) → F (nI (mst f m many)) I' J) : ckI G (d + 1) mX7_mostOf [.ref 10, .int (nI m), .int (nI many)] I J P K n F := by
  refine bX7_mostOf_0 hX _ _ ?_
  generalize hB : cpI I 19 20 0 0 20 = B
  have b0 : ∀ k, k < m → B 20 k = nI (f k) := fun k hk => by
    rw [← hB]; unfold cpI; rw [if_pos rfl, pk_cpy_in (Nat.zero_le _) (by omega), Nat.zero_add, Nat.sub_zero]; exact hf k hk
  have b1 : ∀ a k, a ≠ 20 → B a k = I a k := fun a k ha => by rw [← hB]; unfold cpI; rw [if_neg ha]
  generalize hg : (if many ≤ m then many else m) = g
  have hg1 : g ≤ many ∧ g ≤ m ∧ (g = many ∨ g = m) := by rw [← hg]; split <;> omega
  have em : mst f m many = (tpi m g (0, f)).1 := by unfold mst; rw [hg]
  rw [em] at h
  have key := loopN g (fun i => ∀ I', (∀ k, k < m → I' 20 k = nI ((tpi m i (0, f)).2 k)) → (∀ a k, a ≠ 20 → I' a k = I a k) → Ok G (d + 1) mX7_mostOf 20 [some (.ref 10), some (.int (nI m)), some (.int (nI many)), some (.int (nI (tpi m i (0, f)).1)), some (.int (nI i)), none, none] [] I' J P K n (kI P K n F)) ?_ ?_ 0 (by omega)
  · exact key B b0 b1
  · intro I' p1 p2
    refine bX7_mostOf_20 _ _ _ _ ?_
    rw [i_le (by omega) (by omega), i_le (by omega) (by omega)]
    exact ⟨fun _ => h I' p2, fun q => br_t (by omega) (h I' p2)⟩
  · intro i hi ih I' p1 p2
    have hm0 : 0 < m := by omega
    have hle := tpi_le (i := i) hb hm0
    refine bX7_mostOf_20 _ _ _ _ (br_f (nI_ge (by omega) (by omega)) (br_f (nI_ge (by omega) (by omega)) ?_))
    rw [tpi_succ] at ih
    generalize hp : tpi m i (0, f) = p at *
    have key2 := loopN m (fun j => 0 < j → Ok G (d + 1) mX7_mostOf 38 [some (.ref 10), some (.int (nI m)), some (.int (nI many)), some (.int (nI p.1)), some (.int (nI i)), some (.int (nI (bst p.2 j))), some (.int (nI j))] [] I' J P K n (kI P K n F)) ?_ ?_ 1 (by omega)
    · have k1 := key2 (by decide)
      have e : bst p.2 1 = 0 := by simp [bst]
      rw [e] at k1
      exact k1
    · intro _
      have hb2 := bst_lt p.2 m hm0
      refine bX7_mostOf_38 hX _ _ _ _ _ _ (br_t (nI_le (Nat.le_refl _) (by omega)) ⟨nI_inN (by omega) (by decide), nI_inN (by omega) (by decide), ?_⟩)
      rw [nI_ck (by omega), p1 _ hb2, i_add, nI_1]
      refine ih _ (fun k hk => ?_) (fun a k ha => ?_)
      · show _ = nI (up p.2 (bst p.2 m) 0 k)
        by_cases e : k = bst p.2 m
        · subst e; rw [u2_s, up_s]; rfl
        · rw [u2_k _ _ _ _ e, up_n _ _ e]; exact p1 k hk
      · rw [u2_a _ _ _ _ ha]; exact p2 a k ha
    · intro j hj ihj j0
      have hb2 := bst_lt p.2 j j0
      have ih2 := ihj (by omega)
      refine bX7_mostOf_38 hX _ _ _ _ _ _ (br_f (nI_ge hj (by omega)) ⟨nI_inN (by omega) (by decide), nI_inN (by omega) (by decide), ?_⟩)
      have l1 := hle j hj
      have l2 := hle (bst p.2 j) (by omega)
      rw [nI_ck (by omega), nI_ck (by omega), p1 j hj, p1 _ (by omega), i_le (by omega) (by omega), nI_1]
      rw [bst_s] at ih2
      by_cases q : p.2 (bst p.2 j) < p.2 j
      · rw [if_pos q] at ih2
        exact br_f (by omega) ih2
      · rw [if_neg q] at ih2
        exact br_t (by omega) ih2
theorem C_leastBits14 {cn x w0 : Nat} (hX : shX P K) (hcn : cn ≤ 20) (hw : w0 ≤ cn) (hx : x ≤ 999) (hb : ∀ k, k < cn → f k ≤ 400) (hmin : ∀ s, s < w0 → mst f cn s < x) : ∀ (k left needs : Nat) (y z : Int32) (I : sI), k ≤ cn → left ≤ w0 → (∀ k, k < cn → I 19 k = nI (f k)) → (left ≠ 0 → z = nI needs ∧ lbI f cn x w0 k left needs) → (∀ I', (∀ a k, a ≠ 20 → I' a k = I a k) → F (lbs f k left needs y) I' J) → Ok G (d + 2) mX7_leastBits 14 [some (.ref 10), none, none, none, some (.int y), some (.int z), some (.int (nI left)), some (.int (nI k - 1))] [] I J P K n (kI P K n F) := by
  intro k
  induction k with
  | zero =>
    intro left needs y z I hk hl hf hz h
    exact bX7_leastBits_14 hX _ _ _ _ (br_t (by decide) (h I (fun _ _ _ => rfl)))
  | succ k ih =>
    intro left needs y z I hk hl hf hz h
    rw [nI_pred]
    refine bX7_leastBits_14 hX _ _ _ _ (br_f (nI_pos (by omega)) ?_)
    by_cases l0 : left = 0
    · subst l0
      have := h I (fun _ _ _ => rfl)
      rw [lbs_0] at this
      exact br_t (by decide) this
    · obtain ⟨ez, hI⟩ := hz l0
      simp only [lbs, if_neg l0] at h
      have hne : needs ≤ x := by obtain ⟨T, -, -, e⟩ := hI; omega
      refine br_f (nI_nle (by omega) (by omega)) (C_mostOf hX (by omega) (by omega) (fun j hj => hf j (by omega)) (fun j hj => hb j (by omega)) (fun I1 g1 => ?_))
      have hms : mst f k left ≤ 8000 := by
        have h1 := mst_le (f := f) (m := k) (many := left)
        have h2 : sm f k ≤ k * 400 := sm_bound (fun j hj => hb j (by omega))
        omega
      have hf1 : ∀ j, j < cn → I1 19 j = nI (f j) := fun j hj => (g1 19 j (by decide)).trans (hf j hj)
      have em : nI k + (-1) = nI k - 1 := by rw [Int32.sub_eq_add_neg]
      rw [ez, i_le (by omega) (by omega), em]
      refine ⟨fun q => ?_, fun q => ⟨nI_inN (by omega) (by decide), ?_⟩⟩
      · rw [if_neg (show ¬ mst f k left < needs by omega)] at h
        exact ih left needs y (nI needs) I1 (by omega) hl hf1 (fun _ => ⟨rfl, lb_skip hI⟩) (fun I' g2 => h I' (fun a j ha => (g2 a j ha).trans (g1 a j ha)))
      · rw [if_pos (show mst f k left < needs by omega)] at h
        obtain ⟨left', rfl⟩ : ∃ e, left = e + 1 := ⟨left - 1, by omega⟩
        rw [nI_ck (by omega), hf1 k (by omega), pk_m1]
        refine ih left' (needs - f k) _ _ I1 (by omega) (by omega) hf1 (fun l1 => ?_) (fun I' g2 => h I' (fun a j ha => (g2 a j ha).trans (g1 a j ha)))
        have tk := lb_take hmin hI (by omega) (by omega)
        exact ⟨i_sub (by omega), tk.2⟩
theorem C_fewest {x a : Nat} (hX : shX P K) (S : sC P K c l) (L : rL I l hd) (C : rC I c hd so) (w : wf hd so) (hx : 1 ≤ x ∧ x ≤ 999) (ha : a < 40) (h : ∀ I', I' 10 3 = (if few (odl so a) (hd 1) x ≤ hd 1 then lbs (odl so a) (hd 1) (few (odl so a) (hd 1) x) x 0 else I 10 3) → (∀ b k, b ≠ 19 → b ≠ 20 → ¬ (b = 10 ∧ k = 3) → I' b k = I b k) → F (if few (odl so a) (hd 1) x ≤ hd 1 then nI (few (odl so a) (hd 1) x) else -1) I' J) : ckI G (d + 3) mX7_fewestCasks [.ref 10, .ref c, .int (nI x), .int (nI a)] I J P K n F := by
  have hc := wf_casks w
  have c34 := S.2.2.2.1
  have hb : ∀ k, k < hd 1 → odl so a k ≤ 400 := fun k hk => odl_le w hk
  refine bX7_fewestCasks_0 _ _ _ S.1 ⟨l, S.2.1, S.2.2.1, ?_⟩
  rw [L.1 1 (by decide)]
  have key := loopN (hd 1) (fun j => ∀ I', (∀ k, k < j → I' 19 k = nI (odl so a k)) → (∀ b k, b ≠ 19 → I' b k = I b k) → Ok G (d + 3) mX7_fewestCasks 12 [some (.ref 10), some (.ref c), some (.int (nI x)), some (.int (nI a)), some (.int (nI (hd 1))), some (.int (nI j))] [] I' J P K n (kI P K n F)) ?_ ?_ 0 (by omega)
  · exact key I (fun k hk => by omega) (fun _ _ _ => rfl)
  · intro I1 p1 p2
    refine bX7_fewestCasks_12 hX _ _ _ _ _ S.1 (br_t (nI_le (Nat.le_refl _) (by omega)) ?_)
    generalize hF : odl so a = f at *
    have fo := fnd_ok (fun t => decide (x ≤ mst f (hd 1) t)) (hd 1) 1
    have hfw : few f (hd 1) x = fnd (fun t => decide (x ≤ mst f (hd 1) t)) (hd 1) 1 := rfl
    have lp : ∀ r t I', t + r = hd 1 + 1 → 1 ≤ t → fnd (fun t => decide (x ≤ mst f (hd 1) t)) (hd 1) 1 = fnd (fun t => decide (x ≤ mst f (hd 1) t)) r t → (∀ k, k < hd 1 → I' 19 k = nI (f k)) → (∀ b k, b ≠ 19 → b ≠ 20 → I' b k = I b k) → Ok G (d + 3) mX7_fewestCasks 42 [some (.ref 10), none, some (.int (nI x)), none, some (.int (nI (hd 1))), some (.int (nI t))] [] I' J P K n (kI P K n F) := by
      intro r
      induction r with
      | zero =>
        intro t I' ht t1 hfn q1 q2
        have e : few f (hd 1) x = t := by rw [hfw, hfn]; rfl
        refine bX7_fewestCasks_42 hX _ _ _ (br_t (nI_lt (by omega) (by omega)) ?_)
        have hh := h I' (by rw [if_neg (by omega)]; exact q2 10 3 (by decide) (by decide)) (fun b k b1 b2 _ => q2 b k b1 b2)
        rw [if_neg (by omega)] at hh
        exact hh
      | succ r ih =>
        intro t I' ht t1 hfn q1 q2
        refine bX7_fewestCasks_42 hX _ _ _ (br_f (nI_nlt (by omega) (by omega)) ?_)
        have hms : mst f (hd 1) t ≤ 8000 := by
          have h1 := mst_le (f := f) (m := hd 1) (many := t)
          have h2 : sm f (hd 1) ≤ hd 1 * 400 := sm_bound (fun j hj => hb j hj)
          omega
        refine C_mostOf hX (by omega) (by omega) q1 hb (fun I2 g2 => ?_)
        rw [i_lt (by omega) (by omega)]
        have q1' : ∀ k, k < hd 1 → I2 19 k = nI (f k) := fun k hk => (g2 19 k (by decide)).trans (q1 k hk)
        have q2' : ∀ b k, b ≠ 19 → b ≠ 20 → I2 b k = I b k := fun b k b1 b2 => (g2 b k b2).trans (q2 b k b1 b2)
        refine ⟨fun q => ?_, fun q => ?_⟩
        · rw [nI_1]
          refine ih (t + 1) I2 (by omega) (by omega) ?_ q1' q2'
          rw [hfn]; simp only [fnd]; rw [if_neg (by rw [decide_eq_true_iff]; omega)]
        · have e : few f (hd 1) x = t := by rw [hfw, hfn]; simp only [fnd]; rw [if_pos (decide_eq_true (by omega))]
          have hmin : ∀ s, s < t → mst f (hd 1) s < x := fun s hs => by
            rcases Nat.eq_zero_or_pos s with z | z
            · subst z
              have : mst f (hd 1) 0 = 0 := by unfold mst; rw [if_pos (Nat.zero_le _)]; rfl
              omega
            · have := fo.2.2.1 s z (by rw [← hfw, e]; exact hs)
              have := of_decide_eq_false this
              omega
          refine bX7_leastBits_0 _ _ _ ?_
          refine C_leastBits14 (cn := hd 1) (x := x) (w0 := t) hX hc (by omega) hx.2 hb hmin (hd 1) t x 0 (nI x) I2 (Nat.le_refl _) (Nat.le_refl _) q1' (fun _ => ⟨rfl, fun _ => false, fun _ _ => rfl, ?_, ?_⟩) (fun I3 g3 => ?_)
          · have : szB (fun _ => false) (hd 1) = 0 := by unfold szB; exact sm_zero _
            omega
          · have : suB (fun _ => false) f (hd 1) = 0 := by unfold suB; exact sm_zero _
            omega
          · have hh := h (u2 I3 10 3 (lbs f (hd 1) t x 0)) (by rw [u2_s, if_pos (by omega), e]) (fun b k b1 b2 b3 => by
              have : u2 I3 10 3 (lbs f (hd 1) t x 0) b k = I3 b k := by simp only [u2]; rw [if_neg b3]
              rw [this, g3 b k b2]; exact q2' b k b1 b2)
            rw [if_pos (by omega), e] at hh
            exact hh
    exact lp (hd 1) 1 I1 (by omega) (Nat.le_refl _) rfl p1 (fun b k b1 _ => p2 b k b1)
  · intro j hj ih I' p1 p2
    have C' : rC I' c hd so := rC_of C (fun b k b1 b2 => p2 b k (by omega)) hc
    refine bX7_fewestCasks_12 hX _ _ _ _ _ S.1 (br_f (nI_ge hj (by omega)) (C_olderOf S C' w hj ha ⟨nI_inN (by omega) (by decide), ?_⟩))
    rw [nI_ck (by omega), nI_1]
    refine ih _ (fun k hk => ?_) (fun b k hb1 => ?_)
    · by_cases e : k = j
      · subst e; rw [u2_s]
      · rw [u2_k _ _ _ _ e]; exact p1 k (by omega)
    · rw [u2_a _ _ _ _ hb1]; exact p2 b k hb1
end StoreC
