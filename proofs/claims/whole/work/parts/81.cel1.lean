/-! the class: a layout and a cellar in numbers, what is asked of them -/
def rL (I : sI) (l : Nat) (hd : Nat → Nat) : Prop := (∀ k, k < 5 → I l k = nI (hd k)) ∧ (∀ s, s < hd 0 → I (l + 2) s = nI (hd (5 + s)) ∧ I (l + 3) s = nI (hd (10 + s)) ∧ I (l + 4) s = nI (fst' hd s)) ∧ ∀ k, k < hd 1 → I (l + 5) k = nI (sof hd k)
def rLN (J : sJ) (l : Nat) (hd : Nat → Nat) (nm : Nat → List Nat) : Prop := ∀ s, s < hd 0 → J (l + 1) s = lN (vB 32 (nm s) 0) ∧ okW (nm s)
def rC (I : sI) (c : Nat) (hd so : Nat → Nat) : Prop := I c 1 = nI (so 0) ∧ I c 2 = nI (so 1) ∧ I c 3 = nI (so 2) ∧ (∀ k v, k < hd 1 → v < 40 → I (c + 2 + k) v = nI (wn so k v)) ∧ (∀ k, k < hd 1 → I (c + 22) k = nI (ltr so k) ∧ I (c + 23) k = nI (so (43 + k))) ∧ ∀ v, v < 40 → I (c + 24) v = nI (btl so v)
/-- a cellar c with its layout l, apart from all that is fixed -/
def sC (P : sP) (K : sK) (c l : Nat) : Prop := shC P K c ∧ P c 0 = some l ∧ shL P K l ∧ 34 < c ∧ 34 < l ∧ (l + 5 < c ∨ c + 24 < l)
theorem bs_t {p : Nat → Bool} {j : Nat} (h : p j = true) : bs p (j + 1) = bs p j ||| (1 <<< (nI j &&& 31)) := by simp only [bs]; rw [if_pos h]
theorem bs_f {p : Nat → Bool} {j : Nat} (h : p j = false) : bs p (j + 1) = bs p j := by simp only [bs]; rw [if_neg (by rw [h]; decide)]
section Cel1
variable {G : gG} {d : Nat} {I : sI} {J : sJ} {P : sP} {K : sK} {n : Nat} {F : Int32 → sI → sJ → Prop} {FV : sI → sJ → Prop} {hd so : Nat → Nat} {c l : Nat}
theorem C_holdsOf {k : Nat} (S : shL P K l) (L : rL I l hd) (w : wf hd so) (hk : k < hd 1) (h : F (nI (hol hd k)) I J) : ckI G d mX5_holdsOf [.ref l, .int (nI k)] I J P K n F := by
  have hc := wf_casks w
  have hs := (sof_at w hk).1
  have h0 := w.1
  refine bX5_holdsOf_0 _ _ S ?_
  rw [nI_ck (by omega), L.2.2 k hk, nI_ck (by omega), (L.2.1 _ hs).2.1]
  exact ⟨nI_inN (by omega) (by decide), nI_inN (by omega) (by decide), h⟩
theorem C_numberOf {k : Nat} (S : shL P K l) (L : rL I l hd) (w : wf hd so) (hk : k < hd 1) (h : F (nI (k - fst' hd (sof hd k))) I J) : ckI G d mX5_numberOf [.ref l, .int (nI k)] I J P K n F := by
  have hc := wf_casks w
  have hs := sof_at w hk
  have h0 := w.1
  refine bX5_numberOf_0 _ _ S ?_
  rw [nI_ck (by omega), L.2.2 k hk, nI_ck (by omega), (L.2.1 _ hs.1).2.2, i_sub hs.2.1]
  exact ⟨nI_inN (by omega) (by decide), nI_inN (by omega) (by decide), h⟩
theorem C_lackOf {k : Nat} (S : sC P K c l) (L : rL I l hd) (C : rC I c hd so) (w : wf hd so) (hk : k < hd 1) (h : F (nI (lck hd so k)) I J) : ckI G (d + 1) mX1_lackOf [.ref c, .int (nI k)] I J P K n F := by
  have hc := wf_casks w
  refine bX1_lackOf_0 _ _ S.1 ⟨l, S.2.1, S.2.2.1, C_holdsOf S.2.2.1 L w hk ⟨nI_inN (by omega) (by decide), ?_⟩⟩
  rw [nI_ck (by omega), (C.2.2.2.2.1 k hk).1, i_sub (w.2.2.2.2.2.2.2.1 k hk)]
  exact h
theorem C_haveOfScale {s : Nat} (S : sC P K c l) (L : rL I l hd) (C : rC I c hd so) (w : wf hd so) (hs : s < hd 0) (h : F (nI (ssc hd (ltr so) s)) I J) : ckI G d mX1_haveOfScale [.ref c, .int (nI s)] I J P K n F := by
  have hc := wf_casks w
  have h0 := w.1
  have hsz := (w.2.1 s hs).2.1
  have hff := wf_fst w (s := s) (by omega)
  refine bX1_haveOfScale_0 _ _ S.1 ⟨l, S.2.1, S.2.2.1, nI_inN (by omega) (by decide), ?_⟩
  rw [nI_ck (by omega), (L.2.1 s hs).2.2]
  refine loopN (hd (5 + s)) (fun j => Ok G d mX1_haveOfScale 15 [some (.ref c), some (.int (nI s)), some (.int (nI (sm (fun i => ltr so (fst' hd s + i)) j))), some (.int (nI (fst' hd s))), some (.int (nI j))] [] I J P K n (kI P K n F)) ?_ ?_ 0 (by omega)
  · refine bX1_haveOfScale_15 _ _ _ _ _ S.1 ⟨l, S.2.1, S.2.2.1, nI_inN (by omega) (by decide), ?_⟩
    rw [nI_ck (by omega), (L.2.1 s hs).1]
    exact br_t (nI_le (Nat.le_refl _) (by omega)) h
  · intro j hj ih
    have hk := wf_in w hs hj
    refine bX1_haveOfScale_15 _ _ _ _ _ S.1 ⟨l, S.2.1, S.2.2.1, nI_inN (by omega) (by decide), ?_⟩
    rw [nI_ck (show s < 2147483648 by omega), (L.2.1 s hs).1]
    refine br_f (nI_ge hj (by omega)) ?_
    rw [i_add, nI_ck (by omega), (C.2.2.2.2.1 _ hk).1, i_add, nI_1]
    exact ⟨nI_inN (by omega) (by decide), ih⟩
theorem ssc_lck {hd so : Nat → Nat} (w : wf hd so) {s : Nat} (hs : s < hd 0) : ssc hd (lck hd so) s + ssc hd (ltr so) s = hd (10 + s) * hd (5 + s) := by
  have h0 := w.1
  unfold ssc
  rw [← sm_add, Nat.mul_comm, ← sm_const]
  refine sm_congr (fun i hi => ?_)
  have hk := wf_in w hs hi
  have hso : sof hd (fst' hd s + i) = s := sof_is (by omega) (by omega) (by rw [fst_succ]; omega)
  have := w.2.2.2.2.2.2.2.1 _ hk
  unfold lck
  have e : hol hd (fst' hd s + i) = hd (10 + s) := by unfold hol; rw [hso]
  omega
theorem C_lackOfScale {s : Nat} (S : sC P K c l) (L : rL I l hd) (C : rC I c hd so) (w : wf hd so) (hs : s < hd 0) (h : F (nI (ssc hd (lck hd so) s)) I J) : ckI G (d + 1) mX1_lackOfScale [.ref c, .int (nI s)] I J P K n F := by
  have h0 := w.1
  have hv : vp_in (nI s) 5 := nI_inN (by omega) (by decide)
  refine bX1_lackOfScale_0 _ _ S.1 ⟨l, S.2.1, S.2.2.1, hv, l, S.2.1, S.2.2.1, hv, C_haveOfScale S L C w hs ?_⟩
  have e := ssc_lck w hs
  rw [nI_ck (by omega), (L.2.1 s hs).1, (L.2.1 s hs).2.1, i_mul, ← e, i_sub (by omega), Nat.add_sub_cancel]
  exact h
theorem C_haveInAll (S : sC P K c l) (L : rL I l hd) (C : rC I c hd so) (w : wf hd so) (h : F (nI (sm (ltr so) (hd 1))) I J) : ckI G d mX1_haveInAll [.ref c] I J P K n F := by
  have hc := wf_casks w
  refine bX1_haveInAll_0 _ (loopN (hd 1) (fun j => Ok G d mX1_haveInAll 4 [some (.ref c), some (.int (nI (sm (ltr so) j))), some (.int (nI j))] [] I J P K n (kI P K n F)) ?_ ?_ 0 (by omega))
  · refine bX1_haveInAll_4 _ _ _ S.1 ⟨l, S.2.1, S.2.2.1, ?_⟩
    rw [L.1 1 (by decide)]
    exact br_t (nI_le (Nat.le_refl _) (by omega)) h
  · intro j hj ih
    refine bX1_haveInAll_4 _ _ _ S.1 ⟨l, S.2.1, S.2.2.1, ?_⟩
    rw [L.1 1 (by decide)]
    refine br_f (nI_ge hj (by omega)) ?_
    rw [nI_ck (by omega), (C.2.2.2.2.1 _ hj).1, i_add, nI_1]
    exact ⟨nI_inN (by omega) (by decide), ih⟩
theorem C_inBottle (S : shC P K c) (C : rC I c hd so) (h : F (nI (sm (btl so) 40)) I J) : ckI G d mX1_inBottle [.ref c] I J P K n F := by
  refine bX1_inBottle_0 _ (loopN 40 (fun j => Ok G d mX1_inBottle 4 [some (.ref c), some (.int (nI (sm (btl so) j))), some (.int (nI j))] [] I J P K n (kI P K n F)) ?_ ?_ 0 (by omega))
  · exact bX1_inBottle_4 _ _ _ S (br_t (nI_le (b := 40) (Nat.le_refl _) (by omega)) h)
  · intro j hj ih
    refine bX1_inBottle_4 _ _ _ S (br_f (nI_ge (b := 40) hj (by omega)) ?_)
    rw [nI_ck (by omega), C.2.2.2.2.2 _ hj, i_add, nI_1]
    exact ⟨nI_inN (by omega) (by decide), ih⟩
/-- ages of a row: only what is older than this year -/
theorem sm_cut (f : Nat → Nat) (y : Nat) : ∀ m j, j ≤ m → y ≤ j → sm (fun v => f v * (y - v)) m = sm (fun v => f v * (y - v)) j := by
  intro m
  induction m with
  | zero => intro j h _; rw [show j = 0 by omega]
  | succ m ih =>
    intro j h hy
    by_cases e : j = m + 1
    · rw [e]
    · simp only [sm]
      rw [ih j (by omega) hy, show y - m = 0 by omega]; omega
theorem C_agesOfRow {a : Nat} {f : Nat → Nat} (S : shC P K c) (ka : K a = (13, 40)) (y : I c 1 = nI (so 0)) (hy : so 0 ≤ 39) (hf : ∀ v, v < 40 → I a v = nI (f v)) (h : F (nI (sm (fun v => f v * (so 0 - v)) 40)) I J) : ckI G d mX1_agesOfRow [.ref c, .ref a] I J P K n F := by
  have e := sm_cut f (so 0) 40 (so 0) (by omega) (Nat.le_refl _)
  rw [e] at h
  refine bX1_agesOfRow_0 _ _ (loopN (so 0) (fun j => Ok G d mX1_agesOfRow 4 [some (.ref c), some (.ref a), some (.int (nI (sm (fun v => f v * (so 0 - v)) j))), some (.int (nI j))] [] I J P K n (kI P K n F)) ?_ ?_ 0 (by omega))
  · refine bX1_agesOfRow_4 _ _ _ _ S ?_
    rw [y]
    exact br_t (nI_le (Nat.le_refl _) (by omega)) h
  · intro j hj ih
    refine bX1_agesOfRow_4 _ _ _ _ S ?_
    rw [y]
    refine br_f (nI_ge hj (by omega)) (br_f (nI_ge (b := 40) (by omega) (by decide)) ?_)
    rw [ka]
    refine ⟨rfl, nI_inN (by show j < 40; omega) (by decide), ?_⟩
    rw [nI_ck (by omega), hf j (by omega), i_sub (by omega), i_mul, i_add, nI_1]
    exact ih
theorem C_agesOf {k : Nat} (S : sC P K c l) (C : rC I c hd so) (w : wf hd so) (hk : k < hd 1) (h : F (nI (ags so k)) I J) : ckI G (d + 1) mX1_agesOf [.ref c, .int (nI k)] I J P K n F := by
  have hc := wf_casks w
  refine bX1_agesOf_0 _ _ S.1 ⟨nI_inN (by omega) (by decide), ?_⟩
  rw [nI_ck (by omega)]
  exact C_agesOfRow (so := so) (f := wn so k) S.1 ((shC_R S.1) k (by omega)).2 C.1 w.2.2.2.2.2.2.1 (fun v hv => C.2.2.2.1 k v hk hv) h
theorem C_agesOfScale {s : Nat} (S : sC P K c l) (L : rL I l hd) (C : rC I c hd so) (w : wf hd so) (hs : s < hd 0) (h : F (nI (ssc hd (ags so) s)) I J) : ckI G (d + 2) mX1_agesOfScale [.ref c, .int (nI s)] I J P K n F := by
  have hc := wf_casks w
  have h0 := w.1
  have hsz := (w.2.1 s hs).2.1
  have hff := wf_fst w (s := s) (by omega)
  refine bX1_agesOfScale_0 _ _ S.1 ⟨l, S.2.1, S.2.2.1, nI_inN (by omega) (by decide), ?_⟩
  rw [nI_ck (by omega), (L.2.1 s hs).2.2]
  refine loopN (hd (5 + s)) (fun j => Ok G (d + 2) mX1_agesOfScale 15 [some (.ref c), some (.int (nI s)), some (.int (nI (sm (fun i => ags so (fst' hd s + i)) j))), some (.int (nI (fst' hd s))), some (.int (nI j))] [] I J P K n (kI P K n F)) ?_ ?_ 0 (by omega)
  · refine bX1_agesOfScale_15 _ _ _ _ _ S.1 ⟨l, S.2.1, S.2.2.1, nI_inN (by omega) (by decide), ?_⟩
    rw [nI_ck (by omega), (L.2.1 s hs).1]
    exact br_t (nI_le (Nat.le_refl _) (by omega)) h
  · intro j hj ih
    have hk := wf_in w hs hj
    refine bX1_agesOfScale_15 _ _ _ _ _ S.1 ⟨l, S.2.1, S.2.2.1, nI_inN (by omega) (by decide), ?_⟩
    rw [nI_ck (show s < 2147483648 by omega), (L.2.1 s hs).1, i_add]
    refine br_f (nI_ge hj (by omega)) (C_agesOf S C w hk ?_)
    rw [i_add, nI_1]
    exact ih
/-- what is old enough -/
theorem sm_old (f : Nat → Nat) (y a : Nat) : ∀ m j, j ≤ m → y + 1 ≤ j + a → sm (fun v => if v + a ≤ y then f v else 0) m = sm (fun v => if v + a ≤ y then f v else 0) j := by
  intro m
  induction m with
  | zero => intro j h _; rw [show j = 0 by omega]
  | succ m ih =>
    intro j h hy
    by_cases e : j = m + 1
    · rw [e]
    · simp only [sm]
      rw [ih j (by omega) hy, if_neg (by omega)]; omega
theorem C_olderOf {k a : Nat} (S : sC P K c l) (C : rC I c hd so) (w : wf hd so) (hk : k < hd 1) (ha : a < 40) (h : F (nI (odl so a k)) I J) : ckI G d mX1_olderOf [.ref c, .int (nI k), .int (nI a)] I J P K n F := by
  have hc := wf_casks w
  have hy := w.2.2.2.2.2.2.1
  have e := sm_old (wn so k) (so 0) a 40 (so 0 + 1 - a) (by omega) (by omega)
  unfold odl at h
  rw [e] at h
  have lt : ∀ j, j ≤ 40 → (nI (so 0) - nI a < nI j ↔ so 0 < j + a) := fun j hj => by
    rcases Nat.lt_or_ge (so 0) a with q | q
    · have e1 := pk_sneg (a := so 0) (b := a) (by omega) q
      exact ⟨fun _ => by omega, fun _ => Int32.lt_of_lt_of_le e1 (nI_pos' (by omega))⟩
    · rw [i_sub q, i_lt (by omega) (by omega)]; omega
  refine bX1_olderOf_0 _ _ _ (loopN (so 0 + 1 - a) (fun j => Ok G d mX1_olderOf 5 [some (.ref c), some (.int (nI k)), some (.int (nI a)), some (.int (nI (sm (fun v => if v + a ≤ so 0 then wn so k v else 0) j))), some (.int (nI j))] [] I J P K n (kI P K n F)) ?_ ?_ 0 (by omega))
  · refine bX1_olderOf_5 _ _ _ _ _ S.1 ?_
    rw [C.1]
    exact br_t ((lt _ (by omega)).mpr (by omega)) h
  · intro j hj ih
    refine bX1_olderOf_5 _ _ _ _ _ S.1 ?_
    rw [C.1]
    refine br_f (fun q => absurd ((lt _ (by omega)).mp q) (by omega)) (br_f (nI_ge (b := 40) (by omega) (by decide)) ⟨nI_inN (by omega) (by decide), nI_inN (by omega) (by decide), ?_⟩)
    rw [nI_ck (by omega), nI_ck (by omega), C.2.2.2.1 k j hk (by omega), i_add, nI_1]
    have e2 : sm (fun v => if v + a ≤ so 0 then wn so k v else 0) (j + 1) = sm (fun v => if v + a ≤ so 0 then wn so k v else 0) j + wn so k j := by
      simp only [sm]; rw [if_pos (by omega)]
    rw [e2] at ih
    exact ih
theorem lo_some {f : Nat → Nat} : ∀ {m v : Nat}, (∀ k, k < v → ¬ 0 < f k) → v < m → 0 < f v → lo f m = some v := by
  intro m
  induction m with
  | zero => intro v _ h; omega
  | succ m ih =>
    intro v h1 h2 h3
    simp only [lo]
    by_cases e : v < m
    · rw [ih h1 e h3]
    · have hv : v = m := by omega
      subst hv
      have : lo f v = none := by
        cases e2 : lo f v with
        | none => rfl
        | some u => have := lo_lt e2; exact absurd this.2 (h1 u this.1)
      rw [this]; exact if_pos h3
theorem lo_none {f : Nat → Nat} {m : Nat} (h : ∀ k, k < m → ¬ 0 < f k) : lo f m = none := by
  cases e2 : lo f m with
  | none => rfl
  | some u => have := lo_lt e2; exact absurd this.2 (h u this.1)
theorem C_oldest {k : Nat} (S : sC P K c l) (C : rC I c hd so) (w : wf hd so) (hk : k < hd 1) (h : F (oI (lo (wn so k) 40)) I J) : ckI G d mX1_oldest [.ref c, .int (nI k)] I J P K n F := by
  have hc := wf_casks w
  refine bX1_oldest_0 _ _ ?_
  have key := loopN 40 (fun j => (∀ v, v < j → ¬ 0 < wn so k v) → Ok G d mX1_oldest 2 [some (.ref c), some (.int (nI k)), some (.int (nI j))] [] I J P K n (kI P K n F)) ?_ ?_ 0 (by omega)
  · exact key (fun v hv => by omega)
  · intro hn
    rw [lo_none hn] at h
    exact bX1_oldest_2 _ _ _ S.1 (br_t (nI_le (b := 40) (Nat.le_refl _) (by omega)) h)
  · intro j hj ih hn
    have hw := wf_wn w hk hj
    refine bX1_oldest_2 _ _ _ S.1 (br_f (nI_ge (b := 40) hj (by omega)) ⟨nI_inN (by omega) (by decide), nI_inN hj (by decide), ?_⟩)
    rw [nI_ck (by omega), nI_ck (by omega), C.2.2.2.1 k j hk hj]
    by_cases e : 0 < wn so k j
    · rw [lo_some hn hj e] at h
      exact br_f (nI_nle e (by omega)) h
    · refine br_t (by rw [show wn so k j = 0 by omega]; decide) ?_
      rw [nI_1]
      exact ih (fun v hv => by
        by_cases q : v = j
        · rw [q]; exact e
        · exact hn v (by omega))
theorem C_youngest {k : Nat} (S : sC P K c l) (C : rC I c hd so) (w : wf hd so) (hk : k < hd 1) (h : F (oI (hi (wn so k) 40)) I J) : ckI G d mX1_youngest [.ref c, .int (nI k)] I J P K n F := by
  have hc := wf_casks w
  refine bX1_youngest_0 _ _ ?_
  have key : ∀ j, j ≤ 40 → F (oI (hi (wn so k) j)) I J → Ok G d mX1_youngest 3 [some (.ref c), some (.int (nI k)), some (.int (nI j - 1))] [] I J P K n (kI P K n F) := by
    intro j
    induction j with
    | zero => intro _ hh; exact bX1_youngest_3 _ _ _ S.1 (br_t (by decide) hh)
    | succ j ih =>
      intro hj hh
      have hw := wf_wn w hk (v := j) (by omega)
      rw [nI_pred]
      refine bX1_youngest_3 _ _ _ S.1 (br_f (nI_pos (by omega)) ⟨nI_inN (by omega) (by decide), nI_inN (by omega) (by decide), ?_⟩)
      rw [nI_ck (by omega), nI_ck (by omega), C.2.2.2.1 k j hk (by omega)]
      simp only [hi] at hh
      by_cases e : 0 < wn so k j
      · rw [if_pos e] at hh
        exact br_f (nI_nle e (by omega)) hh
      · rw [if_neg e] at hh
        refine br_t (by rw [show wn so k j = 0 by omega]; decide) ?_
        have e2 : nI j + (-1) = nI j - 1 := by rw [Int32.sub_eq_add_neg]
        rw [e2]
        exact ih (by omega) hh
  exact key 40 (Nat.le_refl _) h
theorem C_fullCasks (S : sC P K c l) (L : rL I l hd) (C : rC I c hd so) (w : wf hd so) (h : F (bs (fun k => decide (lck hd so k = 0)) (hd 1)) I J) : ckI G (d + 2) mX1_fullCasks [.ref c] I J P K n F := by
  have hc := wf_casks w
  refine bX1_fullCasks_0 _ (loopN (hd 1) (fun j => Ok G (d + 2) mX1_fullCasks 4 [some (.ref c), some (.int (bs (fun k => decide (lck hd so k = 0)) j)), some (.int (nI j))] [] I J P K n (kI P K n F)) ?_ ?_ 0 (by omega))
  · refine bX1_fullCasks_4 _ _ _ S.1 ⟨l, S.2.1, S.2.2.1, ?_⟩
    rw [L.1 1 (by decide)]
    exact br_t (nI_le (Nat.le_refl _) (by omega)) h
  · intro j hj ih
    refine bX1_fullCasks_4 _ _ _ S.1 ⟨l, S.2.1, S.2.2.1, ?_⟩
    rw [L.1 1 (by decide)]
    refine br_f (nI_ge hj (by omega)) (C_lackOf S L C w hj ?_)
    have hl := lck_le w hj
    rw [nI_1]
    by_cases e : lck hd so j = 0
    · rw [bs_t (decide_eq_true e)] at ih
      rw [e]; exact br_t rfl ih
    · rw [bs_f (decide_eq_false e)] at ih
      exact br_f (nI_ne0 (by omega) (by omega)) ih
theorem C_emptyCasks (S : sC P K c l) (L : rL I l hd) (C : rC I c hd so) (w : wf hd so) (h : F (bs (fun k => decide (ltr so k = 0)) (hd 1)) I J) : ckI G d mX1_emptyCasks [.ref c] I J P K n F := by
  have hc := wf_casks w
  refine bX1_emptyCasks_0 _ (loopN (hd 1) (fun j => Ok G d mX1_emptyCasks 4 [some (.ref c), some (.int (bs (fun k => decide (ltr so k = 0)) j)), some (.int (nI j))] [] I J P K n (kI P K n F)) ?_ ?_ 0 (by omega))
  · refine bX1_emptyCasks_4 _ _ _ S.1 ⟨l, S.2.1, S.2.2.1, ?_⟩
    rw [L.1 1 (by decide)]
    exact br_t (nI_le (Nat.le_refl _) (by omega)) h
  · intro j hj ih
    refine bX1_emptyCasks_4 _ _ _ S.1 ⟨l, S.2.1, S.2.2.1, ?_⟩
    rw [L.1 1 (by decide)]
    refine br_f (nI_ge hj (by omega)) ⟨nI_inN (by omega) (by decide), ?_⟩
    have hl := wf_ltr w hj
    rw [nI_ck (by omega), (C.2.2.2.2.1 j hj).1, nI_1]
    by_cases e : ltr so j = 0
    · rw [bs_t (decide_eq_true e)] at ih
      rw [e]; exact br_t rfl ih
    · rw [bs_f (decide_eq_false e)] at ih
      exact br_f (nI_ne0 (by omega) (by omega)) ih
theorem C_caskOf {s m : Nat} (S : shL P K l) (L : rL I l hd) (w : wf hd so) (hm : m < 2147483648) (hs : s < 2147483648) (h : F (oN (if s < hd 0 then ckO hd s m else none)) I J) : ckI G d mX5_caskOf [.ref l, .int (nI s), .int (nI m)] I J P K n F := by
  have h0 := w.1
  refine bX5_caskOf_0 _ _ _ S ?_
  rw [L.1 0 (by decide)]
  refine br_f (nI_pos (by omega)) ⟨fun q => ?_, fun q => br_f (nI_pos (by omega)) ?_⟩
  · rw [i_le (by omega) (by omega)] at q
    rw [if_neg (by omega)] at h; exact h
  · rw [i_le (by omega) (by omega)] at q
    have hs : s < hd 0 := by omega
    have hsz := (w.2.1 s hs).2.1
    rw [if_pos hs] at h
    rw [nI_ck (by omega), (L.2.1 s hs).1, (L.2.1 s hs).2.2]
    refine ⟨nI_inN (by omega) (by decide), ?_⟩
    unfold ckO at h
    refine ⟨fun q2 => ⟨nI_inN (by omega) (by decide), ?_⟩, fun q2 => ?_⟩
    · rw [i_lt (by omega) (by omega)] at q2
      rw [if_pos q2] at h
      rw [i_add]; exact h
    · rw [i_lt (by omega) (by omega)] at q2
      rw [if_neg q2] at h; exact h
end Cel1
