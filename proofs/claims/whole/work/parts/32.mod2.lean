/-! the reference: sums over casks, ages, bits -/
def ags (so : Nat → Nat) (k : Nat) : Nat := sm (fun v => wn so k v * (so 0 - v)) 40
def odl (so : Nat → Nat) (a k : Nat) : Nat := sm (fun v => if v + a ≤ so 0 then wn so k v else 0) 40
def lck (hd so : Nat → Nat) (k : Nat) : Nat := hol hd k - ltr so k
def lo (f : Nat → Nat) : Nat → Option Nat
  | 0 => none
  | j + 1 => match lo f j with
    | some v => some v
    | none => if 0 < f j then some j else none
def hi (f : Nat → Nat) : Nat → Option Nat
  | 0 => none
  | j + 1 => if 0 < f j then some j else hi f j
def oI (o : Option Nat) : Int32 := match o with
  | none => -1
  | some v => nI v
def bs (p : Nat → Bool) : Nat → Int32
  | 0 => 0
  | j + 1 => if p j then bs p j ||| (1 <<< (nI j &&& 31)) else bs p j
theorem bs_congr {p q : Nat → Bool} {n : Nat} (h : ∀ k, k < n → p k = q k) : bs p n = bs q n := by
  induction n with
  | zero => rfl
  | succ n ih => simp only [bs]; rw [ih (fun k hk => h k (by omega)), h n (by omega)]
theorem lo_lt {f : Nat → Nat} : ∀ {n v : Nat}, lo f n = some v → v < n ∧ 0 < f v := by
  intro n
  induction n with
  | zero => intro v h; cases h
  | succ n ih =>
    intro v h
    simp only [lo] at h
    split at h
    · rename_i w hw; cases h; have := ih hw; exact ⟨by omega, this.2⟩
    · split at h
      · cases h; exact ⟨by omega, by assumption⟩
      · cases h
theorem hi_lt {f : Nat → Nat} : ∀ {n v : Nat}, hi f n = some v → v < n ∧ 0 < f v := by
  intro n
  induction n with
  | zero => intro v h; cases h
  | succ n ih =>
    intro v h
    simp only [hi] at h
    split at h
    · cases h; exact ⟨by omega, by assumption⟩
    · have := ih h; exact ⟨by omega, this.2⟩
theorem oI_m1 {f : Nat → Nat} {n : Nat} (hn : n ≤ 1000) {o : Option Nat} (h : ∀ v, o = some v → v < n) : oI o = -1 ↔ o = none := by
  cases o with
  | none => simp [oI]
  | some v =>
    have := h v rfl
    simp only [oI, reduceCtorEq, iff_false]
    intro e
    have e2 := congrArg Int32.toInt e
    rw [nI_toInt (by omega)] at e2
    have : (-1 : Int32).toInt = -1 := rfl
    omega
theorem ltr_ages {so : Nat → Nat} {k : Nat} : ags so k ≤ so 0 * ltr so k := by
  unfold ags ltr
  rw [← sm_mul]
  refine sm_le (fun v _ => ?_)
  rw [Nat.mul_comm]
  exact Nat.mul_le_mul_right _ (Nat.sub_le _ _)
section ModQ2
variable {G : gG} {d : Nat} {I : sI} {J : sJ} {P : sP} {K : sK} {n : Nat} {F : Int32 → sI → sJ → Prop} {FV : sI → sJ → Prop} {hd so : Nat → Nat}
theorem rM_year (R : rM I hd so) : I 93 815 = nI (so 0) := R.2 0 (by decide)
theorem M_isCask (x : Int32) (hM : shM P K) (R : rM I hd so) (w : wf hd so) (h : F (b01 (inB x (hd 1))) I J) : ckI G (d + 1) mX12_isCask [.ref 91, .int x] I J P K n F := by
  have hc := wf_casks w
  refine bX12_isCask_0 hM x (M_isIn _ _ _ ⟨b01_or _, ?_⟩)
  rw [R.1 1 (by decide), isB_0 x (by omega)]
  exact h
theorem M_isScale (x : Int32) (hM : shM P K) (R : rM I hd so) (w : wf hd so) (h : F (b01 (inB x (hd 0))) I J) : ckI G (d + 1) mX12_isScale [.ref 91, .int x] I J P K n F := by
  have hc := w.1
  refine bX12_isScale_0 hM x (M_isIn _ _ _ ⟨b01_or _, ?_⟩)
  rw [R.1 0 (by decide), isB_0 x (by omega)]
  exact h
theorem M_isVintage (x : Int32) (h : F (b01 (inB x 40)) I J) : ckI G (d + 1) mX12_isVintage [.ref 91, .int x] I J P K n F := by
  refine bX12_isVintage_0 x (M_isIn _ _ _ ⟨b01_or _, ?_⟩)
  rw [show (39 : Int32) = nI 40 - 1 by decide, isB_0 x (by omega)]
  exact h
theorem M_holds {k : Nat} (hM : shM P K) (R : rM I hd so) (w : wf hd so) (hk : k < hd 1) (h : F (nI (hol hd k)) I J) : ckI G (d + 2) mX12_holds [.ref 91, .int (nI k)] I J P K n F := by
  refine bX12_holds_0 hM _ (M_scaleOf hM R w hk ?_)
  have s1 := (sof_at w hk).1
  have h0 := w.1
  have e : (10 + nI (sof hd k) : Int32) = nI (10 + sof hd k) := by show nI 10 + nI _ = _; rw [i_add]
  rw [e, nI_ck (by omega), R.1 _ (by omega)]
  exact ⟨nI_inN (by omega) (by omega), h⟩
theorem M_lacks {k : Nat} (hM : shM P K) (R : rM I hd so) (w : wf hd so) (hk : k < hd 1) (h : F (nI (lck hd so k)) I J) : ckI G (d + 3) mX12_lacks [.ref 91, .int (nI k)] I J P K n F := by
  have hc := wf_casks w
  refine bX12_lacks_0 hM _ (M_holds hM R w hk (M_litresOf hM R (by omega) ?_))
  rw [i_sub (w.2.2.2.2.2.2.2.1 k hk)]
  exact h
theorem ages_step {y v a : Nat} (h : y < v → a = 0) : nI a * (nI y - nI v) = nI (a * (y - v)) := by
  rcases Nat.lt_or_ge y v with q | q
  · rw [h q]
    show (0 : Int32) * _ = _
    rw [Nat.zero_mul, Int32.zero_mul]
    rfl
  · rw [i_sub q, i_mul]
theorem M_agesOf {k : Nat} (hM : shM P K) (R : rM I hd so) (w : wf hd so) (hk : k < hd 1) (h : F (nI (ags so k)) I J) : ckI G (d + 1) mX12_agesOf [.ref 91, .int (nI k)] I J P K n F := by
  have hc := wf_casks w
  refine bX12_agesOf_0 _ (loopN 40 (fun j => Ok G (d + 1) mX12_agesOf 4 [some (.ref 91), some (.int (nI k)), some (.int (nI (sm (fun v => wn so k v * (so 0 - v)) j))), some (.int (nI j))] [] I J P K n (kI P K n F)) ?_ ?_ 0 (by omega))
  · exact bX12_agesOf_4 hM _ _ _ (br_t (nI_le (Nat.le_refl 40) (by omega)) h)
  · intro j hj ih
    refine bX12_agesOf_4 hM _ _ _ (br_f (nI_ge (b := 40) hj (by omega)) (M_wineAt k ?_))
    rw [i_add, nI_ck (by omega), rM_wn R (by omega) hj, rM_year R, ages_step (fun q => w.2.2.2.2.2.2.2.2.1 k j hk q hj), i_add, nI_1]
    exact ⟨nI_inN (by omega) (by omega), ih⟩
theorem M_litresAll (hM : shM P K) (R : rM I hd so) (w : wf hd so) (h : F (nI (sm (ltr so) (hd 1))) I J) : ckI G (d + 2) mX12_litresAll [.ref 91] I J P K n F := by
  have hc := wf_casks w
  refine bX12_litresAll_0 (loopN (hd 1) (fun j => Ok G (d + 2) mX12_litresAll 4 [some (.ref 91), some (.int (nI (sm (ltr so) j))), some (.int (nI j))] [] I J P K n (kI P K n F)) ?_ ?_ 0 (by omega))
  · refine bX12_litresAll_4 hM _ _ ?_
    rw [R.1 1 (by decide)]
    exact br_t (nI_le (Nat.le_refl _) (by omega)) h
  · intro j hj ih
    refine bX12_litresAll_4 hM _ _ ?_
    rw [R.1 1 (by decide)]
    refine br_f (nI_ge hj (by omega)) (M_litresOf hM R (by omega) ?_)
    rw [i_add, nI_1]
    exact ih
/-- of a scale: a sum over its casks -/
def ssc (hd : Nat → Nat) (f : Nat → Nat) (s : Nat) : Nat := sm (fun i => f (fst' hd s + i)) (hd (5 + s))
theorem fst_succ (hd : Nat → Nat) (s : Nat) : fst' hd (s + 1) = fst' hd s + hd (5 + s) := rfl
theorem wf_in {hd so : Nat → Nat} (w : wf hd so) {s i : Nat} (hs : s < hd 0) (hi : i < hd (5 + s)) : fst' hd s + i < hd 1 := by
  have h1 := fst_le hd (show s + 1 ≤ hd 0 by omega)
  rw [fst_succ] at h1
  rw [w.2.2.1]
  omega
theorem M_sumOf {s : Nat} (wh : Nat) (f : Nat → Nat) (hM : shM P K) (R : rM I hd so) (w : wf hd so) (hs : s < hd 0) (hwh : (wh = 0 ∧ f = ltr so) ∨ (wh = 1 ∧ f = lck hd so) ∨ (wh = 2 ∧ f = ags so)) (h : F (nI (ssc hd f s)) I J) : ckI G (d + 4) mX12_sumOf [.ref 91, .int (nI s), .int (nI wh)] I J P K n F := by
  have hc := wf_casks w
  have h0 := w.1
  have hsz := wf_sz w (s := s) (by omega)
  have hf1 := wf_fst w (s := s) (by omega)
  have hf2 := wf_fst w (s := s + 1) (by omega)
  refine bX12_sumOf_0 hM _ _ (M_firstNow hM R (by omega) ?_)
  have key := loopN (hd (5 + s)) (fun j => Ok G (d + 4) mX12_sumOf 12 [some (.ref 91), some (.int (nI s)), some (.int (nI wh)), some (.int (nI (sm (fun i => f (fst' hd s + i)) j))), some (.int (nI (fst' hd s + j)))] [] I J P K n (kI P K n F)) ?_ ?_ 0 (by omega)
  · exact key
  · refine bX12_sumOf_12 hM _ _ _ _ ?_
    rw [nI_1]
    refine M_firstNow hM R (by omega) ?_
    rw [fst_succ]
    exact br_t (nI_le (Nat.le_refl _) (by rw [← fst_succ]; omega)) h
  · intro j hj ih
    have hkc := wf_in w hs hj
    refine bX12_sumOf_12 hM _ _ _ _ ?_
    rw [nI_1]
    refine M_firstNow hM R (by omega) ?_
    rw [fst_succ]
    refine br_f (nI_ge (by omega) (by rw [← fst_succ]; omega)) ?_
    have ih2 : ∀ v : Int32, v = nI (f (fst' hd s + j)) → Ok G (d + 4) mX12_sumOf 12 [some (.ref 91), some (.int (nI s)), some (.int (nI wh)), some (.int (nI (sm (fun i => f (fst' hd s + i)) j) + v)), some (.int (nI (fst' hd s + j) + 1))] [] I J P K n (kI P K n F) := by
      intro v hv
      rw [hv, i_add, nI_1]
      exact ih
    rcases hwh with ⟨e1, e2⟩ | ⟨e1, e2⟩ | ⟨e1, e2⟩
    · subst e1
      exact br_t rfl (M_litresOf hM R (by omega) (ih2 _ (by rw [e2])))
    · subst e1
      exact br_f (by decide) (br_t rfl (M_lacks hM R w hkc (ih2 _ (by rw [e2]))))
    · subst e1
      exact br_f (by decide) (br_f (by decide) (M_agesOf hM R w hkc (ih2 _ (by rw [e2]))))
theorem M_vintageOld {k : Nat} (hM : shM P K) (R : rM I hd so) (w : wf hd so) (hk : k < hd 1) (h : F (oI (lo (wn so k) 40)) I J) : ckI G (d + 1) mX12_vintageOf [.ref 91, .int (nI k), .int 1] I J P K n F := by
  have hc := wf_casks w
  refine bX12_vintageOf_0 _ _ (loopN 40 (fun j => Ok G (d + 1) mX12_vintageOf 5 [some (.ref 91), some (.int (nI k)), some (.int 1), some (.int (oI (lo (wn so k) j))), some (.int (nI j))] [] I J P K n (kI P K n F)) ?_ ?_ 0 (by omega))
  · exact bX12_vintageOf_5 hM _ _ _ _ (br_t (nI_le (Nat.le_refl 40) (by omega)) h)
  · intro j hj ih
    refine bX12_vintageOf_5 hM _ _ _ _ (br_f (nI_ge (b := 40) hj (by omega)) (M_wineAt k ?_))
    have hw := wf_wn w hk hj
    have hm := oI_m1 (f := wn so k) (n := j) (by omega) (o := lo (wn so k) j) (fun v hv => (lo_lt hv).1)
    rw [i_add, nI_ck (by omega), rM_wn R (by omega) hj]
    refine ⟨nI_inN (by omega) (by omega), ?_⟩
    rw [nI_1]
    simp only [lo] at ih
    rcases Nat.eq_zero_or_pos (wn so k j) with q | q
    · refine br_t (nI_le (b := 0) (by omega) (by omega)) ?_
      rw [if_neg (by omega)] at ih
      cases hl : lo (wn so k) j <;> rw [hl] at ih <;> exact ih
    · refine br_f (nI_ge (a := 0) q (by omega)) ?_
      cases hl : lo (wn so k) j with
      | none =>
        rw [hl, if_pos q] at ih
        exact br_t rfl ih
      | some v =>
        rw [hl] at ih hm
        exact br_f (fun e => by cases hm.mp e) (br_f (by decide) ih)
theorem M_vintageYoung {k : Nat} (hM : shM P K) (R : rM I hd so) (w : wf hd so) (hk : k < hd 1) (h : F (oI (hi (wn so k) 40)) I J) : ckI G (d + 1) mX12_vintageOf [.ref 91, .int (nI k), .int 0] I J P K n F := by
  have hc := wf_casks w
  refine bX12_vintageOf_0 _ _ (loopN 40 (fun j => Ok G (d + 1) mX12_vintageOf 5 [some (.ref 91), some (.int (nI k)), some (.int 0), some (.int (oI (hi (wn so k) j))), some (.int (nI j))] [] I J P K n (kI P K n F)) ?_ ?_ 0 (by omega))
  · exact bX12_vintageOf_5 hM _ _ _ _ (br_t (nI_le (Nat.le_refl 40) (by omega)) h)
  · intro j hj ih
    refine bX12_vintageOf_5 hM _ _ _ _ (br_f (nI_ge (b := 40) hj (by omega)) (M_wineAt k ?_))
    have hw := wf_wn w hk hj
    rw [i_add, nI_ck (by omega), rM_wn R (by omega) hj]
    refine ⟨nI_inN (by omega) (by omega), ?_⟩
    rw [nI_1]
    simp only [hi] at ih
    rcases Nat.eq_zero_or_pos (wn so k j) with q | q
    · refine br_t (nI_le (b := 0) (by omega) (by omega)) ?_
      rw [if_neg (by omega)] at ih
      exact ih
    · rw [if_pos q] at ih
      exact br_f (nI_ge (a := 0) q (by omega)) (br_c (fun _ => ih) (fun _ => br_t rfl ih))
theorem M_olderIn {k a : Nat} (hM : shM P K) (R : rM I hd so) (w : wf hd so) (hk : k < hd 1) (ha : a < 40) (h : F (nI (odl so a k)) I J) : ckI G (d + 1) mX12_olderIn [.ref 91, .int (nI k), .int (nI a)] I J P K n F := by
  have hc := wf_casks w
  have hy : so 0 ≤ 39 := w.2.2.2.2.2.2.1
  refine bX12_olderIn_0 _ _ (loopN 40 (fun j => Ok G (d + 1) mX12_olderIn 5 [some (.ref 91), some (.int (nI k)), some (.int (nI a)), some (.int (nI (sm (fun v => if v + a ≤ so 0 then wn so k v else 0) j))), some (.int (nI j))] [] I J P K n (kI P K n F)) ?_ ?_ 0 (by omega))
  · exact bX12_olderIn_5 hM _ _ _ _ (br_t (nI_le (Nat.le_refl 40) (by omega)) h)
  · intro j hj ih
    refine bX12_olderIn_5 hM _ _ _ _ (br_f (nI_ge (b := 40) hj (by omega)) ?_)
    rw [rM_year R]
    have hc2 : (nI (so 0) - nI j < nI a) ↔ ¬ j + a ≤ so 0 := by
      rw [Int32.lt_iff_toInt_lt, pk_sub_toInt (by omega) (by omega), nI_toInt (by omega)]
      omega
    simp only [sm] at ih
    by_cases q : j + a ≤ so 0
    · rw [if_pos q] at ih
      refine br_f (fun e => hc2.mp e q) (M_wineAt k ?_)
      rw [i_add, nI_ck (by omega), rM_wn R (by omega) hj, i_add, nI_1]
      exact ⟨nI_inN (by omega) (by omega), ih⟩
    · rw [if_neg q] at ih
      rw [nI_1]
      exact br_t (hc2.mpr q) ih
theorem M_casksThat (full : Bool) (hM : shM P K) (R : rM I hd so) (w : wf hd so) (h : F (bs (fun k => decide ((if full then lck hd so k else ltr so k) = 0)) (hd 1)) I J) : ckI G (d + 4) mX12_casksThat [.ref 91, .int (b01 full)] I J P K n F := by
  have hc := wf_casks w
  refine bX12_casksThat_0 _ (loopN (hd 1) (fun j => Ok G (d + 4) mX12_casksThat 4 [some (.ref 91), some (.int (b01 full)), some (.int (bs (fun k => decide ((if full then lck hd so k else ltr so k) = 0)) j)), some (.int (nI j))] [] I J P K n (kI P K n F)) ?_ ?_ 0 (by omega))
  · refine bX12_casksThat_4 hM _ _ _ ?_
    rw [R.1 1 (by decide)]
    exact br_t (nI_le (Nat.le_refl _) (by omega)) h
  · intro j hj ih
    refine bX12_casksThat_4 hM _ _ _ ?_
    rw [R.1 1 (by decide)]
    refine br_f (nI_ge hj (by omega)) ?_
    have hl := wf_ltr w hj
    have hh := (wf_hol w hj).2
    have hk2 : lck hd so j ≤ 400 := by unfold lck; omega
    simp only [bs] at ih
    cases full with
    | false =>
      refine br_t rfl (M_litresOf hM R (by omega) ?_)
      rw [nI_1]
      by_cases q : ltr so j = 0
      · simp only [q, Bool.false_eq_true, if_false, decide_true, if_true] at ih
        exact br_t (by rw [q]; rfl) ih
      · simp only [Bool.false_eq_true, if_false, q, decide_false] at ih
        exact br_f (nI_ne0 (by omega) (by omega)) ih
    | true =>
      refine br_f (by decide) (M_lacks hM R w hj ?_)
      rw [nI_1]
      by_cases q : lck hd so j = 0
      · simp only [q, if_true, decide_true] at ih
        exact br_t (by rw [q]; rfl) ih
      · simp only [if_true, q, decide_false, Bool.false_eq_true, if_false] at ih
        exact br_f (nI_ne0 (by omega) (by omega)) ih
theorem M_common : ∀ (b a : Nat), a < 2147483648 → b < 2147483648 → F (nI (Nat.gcd b a)) I J → Ok G d mX12_common 4 [none, none, some (.int (nI a)), some (.int (nI b)), none] [] I J P K n (kI P K n F) := by
  intro b
  induction b using Nat.strongRecOn with
  | ind b ih =>
    intro a ha hb h
    refine bX12_common_4 _ _ ?_
    rcases Nat.eq_zero_or_pos b with q | q
    · subst q
      rw [Nat.gcd_zero_left] at h
      exact br_t rfl h
    · refine br_f (nI_ne0 q hb) ⟨nI_ne0 q hb, ?_⟩
      rw [i_rem ha q hb]
      refine ih (a % b) (Nat.mod_lt _ q) b hb (Nat.lt_trans (Nat.mod_lt _ q) hb) ?_
      rw [← Nat.gcd_rec]
      exact h
theorem M_partOf {a b : Nat} (wh : Nat) (hw : wh < 2) (ha : a < 2147483648) (hb : b < 2147483648) (h0 : 0 < b) (h : F (nI ((if wh = 0 then a else b) / Nat.gcd b a)) I J) : ckI G (d + 1) mX12_partOf [.ref 91, .int (nI a), .int (nI b), .int (nI wh)] I J P K n F := by
  have hg : 0 < Nat.gcd b a := Nat.gcd_pos_of_pos_left _ h0
  have hg2 : Nat.gcd b a ≤ b := Nat.gcd_le_left _ h0
  refine bX12_partOf_0 _ _ _ ?_
  match wh, hw with
  | 0, _ =>
    refine br_t rfl (bX12_common_0 _ _ (M_common b a ha hb ⟨nI_ne0 hg (by omega), ?_⟩))
    rw [i_div ha hg (by omega)]
    exact h
  | 1, _ =>
    refine br_f (by decide) (bX12_common_0 _ _ (M_common b a ha hb ⟨nI_ne0 hg (by omega), ?_⟩))
    rw [i_div hb hg (by omega)]
    exact h
theorem M_refuse (hM : shM P K) (h : F 0 (u2 I 91 0 1) J) : ckI G d mX12_refuse [.ref 91] I J P K n F := bX12_refuse_0 hM h
end ModQ2
