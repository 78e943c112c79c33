/-! the reference: its state in numbers, and its small methods -/
def b01 (b : Bool) : Int32 := if b then 1 else 0
theorem b01_t : b01 true = 1 := rfl
theorem b01_f : b01 false = 0 := rfl
theorem b01_or (b : Bool) : b01 b = 0 ∨ b01 b = 1 := by cases b <;> simp [b01]
theorem b01_0 {b : Bool} : b01 b = 0 ↔ b = false := by cases b <;> simp [b01]
theorem b01_1 {b : Bool} : b01 b = 1 ↔ b = true := by cases b <;> simp [b01]
def isB (x a b : Int32) : Bool := decide (a ≤ x) && decide (x ≤ b)
def inB (x : Int32) (N : Nat) : Bool := decide (0 ≤ x.toInt) && decide (x.toInt < (N : Int))
theorem inB_nI {k N : Nat} (h : k < N) (hN : N ≤ 2147483647) : inB (nI k) N = true := by
  simp [inB, nI_toInt (show k < 2 ^ 31 by omega)]
  omega
theorem inB_t {x : Int32} {N : Nat} (h : inB x N = true) : ∃ k, k < N ∧ x = nI k := by
  simp [inB] at h
  have h0 : ¬ x < 0 := fun q => by have := Int32.lt_iff_toInt_lt.mp q; simp at this; omega
  obtain ⟨j, hj, rfl⟩ := nI_of h0
  rw [nI_toInt hj] at h
  exact ⟨j, by omega, rfl⟩
theorem inB_f {x : Int32} {N k : Nat} (h : inB x N = false) (hk : k < N) (hN : N ≤ 2147483647) : x ≠ nI k := by
  intro e
  rw [e, inB_nI hk hN] at h
  cases h
theorem isB_0 (x : Int32) {N : Nat} (hN : N ≤ 2147483647) : isB x 0 (nI N - 1) = inB x N := by
  have e : (nI N - 1).toInt = (N : Int) - 1 := by
    cases N with
    | zero => decide
    | succ N => rw [nI_pred, nI_toInt (show N < 2 ^ 31 by omega)]; omega
  simp only [isB, inB, Int32.le_iff_toInt_le, e]
  have e0 : (0 : Int32).toInt = 0 := rfl
  rw [e0]
  congr 1
  exact decide_eq_decide.mpr (by omega)
section ModQ
variable {G : gG} {d : Nat} {I : sI} {J : sJ} {P : sP} {K : sK} {n : Nat} {F : Int32 → sI → sJ → Prop} {FV : sI → sJ → Prop}
theorem M_isIn (x a b : Int32) (h : F (b01 (isB x a b)) I J) : ckI G d mX12_isIn [.int x, .int a, .int b] I J P K n F := by
  refine bX12_isIn_0 x a b ⟨fun q => ?_, fun q => ⟨fun q2 => ?_, fun q2 => ?_⟩⟩
  · have e : isB x a b = false := by simp [isB, Int32.not_le.mpr q]
    rw [e] at h; exact h
  · have e : isB x a b = false := by simp [isB, Int32.not_le.mpr q2]
    rw [e] at h; exact h
  · have e : isB x a b = true := by simp [isB, Int32.not_lt.mp q, Int32.not_lt.mp q2]
    rw [e] at h; exact h
/-- what is told and is so, in the reference's row -/
def rM (I : sI) (hd so : Nat → Nat) : Prop := (∀ k, k < 15 → I 93 k = nI (hd k)) ∧ ∀ j, j < 863 → I 93 (815 + j) = nI (so j)
def wn (so : Nat → Nat) (k v : Nat) : Nat := so (63 + 40 * k + v)
def ltr (so : Nat → Nat) (k : Nat) : Nat := sm (wn so k) 40
def fst' (hd : Nat → Nat) (s : Nat) : Nat := sm (fun k => hd (5 + k)) s
def sof (hd : Nat → Nat) (k : Nat) : Nat := if k < fst' hd 1 then 0 else if k < fst' hd 2 then 1 else if k < fst' hd 3 then 2 else if k < fst' hd 4 then 3 else 4
def hol (hd : Nat → Nat) (k : Nat) : Nat := hd (10 + sof hd k)
def wf (hd so : Nat → Nat) : Prop := hd 0 ≤ 5 ∧ (∀ s, s < hd 0 → 1 ≤ hd (5 + s) ∧ hd (5 + s) ≤ 4 ∧ 10 ≤ hd (10 + s) ∧ hd (10 + s) ≤ 400) ∧ hd 1 = fst' hd (hd 0) ∧ hd 2 ≤ 9 ∧ (1 ≤ hd 3 ∧ hd 3 ≤ 400) ∧ hd 4 ≤ 29 ∧ so 0 ≤ 39 ∧ (∀ k, k < hd 1 → ltr so k ≤ hol hd k) ∧ (∀ k v, k < hd 1 → so 0 < v → v < 40 → wn so k v = 0) ∧ (∀ k, k < 20 → so (43 + k) ≤ 400) ∧ (∀ s, hd 0 ≤ s → s < 5 → hd (5 + s) ≤ 4)
theorem fst_le (hd : Nat → Nat) {s t : Nat} (h : s ≤ t) : fst' hd s ≤ fst' hd t := sm_mono h
theorem wf_sz {hd so : Nat → Nat} (w : wf hd so) {s : Nat} (h : s < 5) : hd (5 + s) ≤ 4 := by
  rcases Nat.lt_or_ge s (hd 0) with q | q
  · exact (w.2.1 s q).2.1
  · exact w.2.2.2.2.2.2.2.2.2.2 s q h
theorem wf_fst {hd so : Nat → Nat} (w : wf hd so) {s : Nat} (h : s ≤ 5) : fst' hd s ≤ 20 := by
  have : fst' hd s ≤ s * 4 := sm_bound (fun k hk => wf_sz w (by omega))
  omega
theorem wf_casks {hd so : Nat → Nat} (w : wf hd so) : hd 1 ≤ 20 := by rw [w.2.2.1]; exact wf_fst w w.1
/-- the scale of a cask -/
theorem sof_at {hd so : Nat → Nat} (w : wf hd so) {k : Nat} (h : k < hd 1) : sof hd k < hd 0 ∧ fst' hd (sof hd k) ≤ k ∧ k < fst' hd (sof hd k + 1) := by
  have h1 := w.2.2.1
  have h0 := w.1
  have m1 := fst_le hd (show 1 ≤ 2 by decide)
  have m2 := fst_le hd (show 2 ≤ 3 by decide)
  have m3 := fst_le hd (show 3 ≤ 4 by decide)
  have m4 := fst_le hd (show 4 ≤ 5 by decide)
  have z : fst' hd 0 = 0 := rfl
  have key : ∀ s, fst' hd s ≤ k → s < hd 0 := fun s q => by
    rcases Nat.lt_or_ge s (hd 0) with r | r
    · exact r
    · have := fst_le hd r; omega
  have m5 : fst' hd (hd 0) ≤ fst' hd 5 := fst_le hd h0
  unfold sof
  split
  · exact ⟨key 0 (by omega), by omega, by assumption⟩
  · split
    · exact ⟨key 1 (by omega), by omega, by assumption⟩
    · split
      · exact ⟨key 2 (by omega), by omega, by assumption⟩
      · split
        · exact ⟨key 3 (by omega), by omega, by assumption⟩
        · exact ⟨key 4 (by omega), by omega, by show k < fst' hd 5; omega⟩
theorem sof_is {hd : Nat → Nat} {k s : Nat} (hs : s < 5) (h1 : fst' hd s ≤ k) (h2 : k < fst' hd (s + 1)) : sof hd k = s := by
  have m0 := fst_le hd (show 0 ≤ 1 by decide)
  have m1 := fst_le hd (show 1 ≤ 2 by decide)
  have m2 := fst_le hd (show 2 ≤ 3 by decide)
  have m3 := fst_le hd (show 3 ≤ 4 by decide)
  have m4 := fst_le hd (show 4 ≤ 5 by decide)
  unfold sof
  match s, hs with
  | 0, _ => rw [if_pos h2]
  | 1, _ => rw [if_neg (by omega), if_pos h2]
  | 2, _ => rw [if_neg (by omega), if_neg (by omega), if_pos h2]
  | 3, _ => rw [if_neg (by omega), if_neg (by omega), if_neg (by omega), if_pos h2]
  | 4, _ => rw [if_neg (by omega), if_neg (by omega), if_neg (by omega), if_neg (by omega)]
theorem wf_hol {hd so : Nat → Nat} (w : wf hd so) {k : Nat} (h : k < hd 1) : 10 ≤ hol hd k ∧ hol hd k ≤ 400 := by
  have := w.2.1 _ (sof_at w h).1
  exact ⟨this.2.2.1, this.2.2.2⟩
theorem wf_ltr {hd so : Nat → Nat} (w : wf hd so) {k : Nat} (h : k < hd 1) : ltr so k ≤ 400 := Nat.le_trans (w.2.2.2.2.2.2.2.1 k h) (wf_hol w h).2
theorem wf_wn {hd so : Nat → Nat} (w : wf hd so) {k v : Nat} (h : k < hd 1) (hv : v < 40) : wn so k v ≤ 400 := Nat.le_trans (sm_mem (f := wn so k) hv) (wf_ltr w h)
theorem M_firstOf {r len s : Nat} {hd : Nat → Nat} (kr : K r = (13, len)) (hl : 10 ≤ len) (hl2 : len ≤ 10000) (hs : s ≤ 5) (hR : ∀ k, k < 5 → I r (5 + k) = nI (hd (5 + k))) (h : F (nI (fst' hd s)) I J) : ckI G d mX12_firstOf [.ref r, .int (nI s)] I J P K n F := by
  refine bX12_firstOf_0 r (nI s) (loopN s (fun j => Ok G d mX12_firstOf 4 [some (.ref r), some (.int (nI s)), some (.int (nI (fst' hd j))), some (.int (nI j))] [] I J P K n (kI P K n F)) ?_ ?_ 0 (by omega))
  · exact bX12_firstOf_4 _ _ _ _ (br_t (nI_le (Nat.le_refl _) (by omega)) h)
  · intro j hj ih
    refine bX12_firstOf_4 _ _ _ _ (br_f (nI_ge hj (by omega)) ⟨by rw [kr], ?_, ?_⟩)
    · rw [kr]; show vp_in (nI 5 + nI j) len; rw [i_add]; exact nI_inN (by omega) (by omega)
    · have e1 : (5 + nI j : Int32).toNatClampNeg = 5 + j := by show (nI 5 + nI j).toNatClampNeg = _; rw [i_add, nI_ck (by omega)]
      rw [e1, hR j (by omega), i_add, nI_1]
      exact ih
theorem M_litresIn {r len q : Nat} {f : Nat → Nat} (kr : K r = (13, len)) (hl : q + 40 ≤ len) (hl2 : len ≤ 10000) (hR : ∀ v, v < 40 → I r (q + v) = nI (f v)) (h : F (nI (sm f 40)) I J) : ckI G d mX12_litresIn [.ref r, .int (nI q)] I J P K n F := by
  refine bX12_litresIn_0 r (nI q) (loopN 40 (fun j => Ok G d mX12_litresIn 4 [some (.ref r), some (.int (nI q)), some (.int (nI (sm f j))), some (.int (nI j))] [] I J P K n (kI P K n F)) ?_ ?_ 0 (by omega))
  · exact bX12_litresIn_4 _ _ _ _ (br_t (nI_le (Nat.le_refl 40) (by omega)) h)
  · intro j hj ih
    refine bX12_litresIn_4 _ _ _ _ (br_f (nI_ge (b := 40) hj (by omega)) ⟨by rw [kr], ?_, ?_⟩)
    · rw [kr, i_add]; exact nI_inN (by omega) (by omega)
    · rw [i_add, nI_ck (by omega), hR j hj, i_add, nI_1]
      exact ih
theorem M_wineAt (k : Nat) (h : F (nI (878 + 40 * k)) I J) : ckI G d mX12_wineAt [.ref 91, .int (nI k)] I J P K n F := by
  refine bX12_wineAt_0 (nI k) ?_
  have e : (878 + 40 * nI k : Int32) = nI (878 + 40 * k) := by show nI 878 + nI 40 * nI k = _; rw [i_mul, i_add]
  rw [e]; exact h
variable {hd so : Nat → Nat}
theorem rM_wn (R : rM I hd so) {k v : Nat} (hk : k < 20) (hv : v < 40) : I 93 (878 + 40 * k + v) = nI (wn so k v) := by
  have := R.2 (63 + 40 * k + v) (by omega)
  rw [show 815 + (63 + 40 * k + v) = 878 + 40 * k + v by omega] at this
  exact this
theorem M_litresOf {k : Nat} (hM : shM P K) (R : rM I hd so) (hk : k < 20) (h : F (nI (ltr so k)) I J) : ckI G (d + 1) mX12_litresOf [.ref 91, .int (nI k)] I J P K n F :=
  bX12_litresOf_0 hM _ (M_wineAt k (M_litresIn (f := wn so k) (shM_K93 hM) (by omega) (by omega) (fun v hv => rM_wn R hk hv) h))
theorem M_firstNow {s : Nat} (hM : shM P K) (R : rM I hd so) (hs : s ≤ 5) (h : F (nI (fst' hd s)) I J) : ckI G d mX12_firstOf [.ref 93, .int (nI s)] I J P K n F :=
  M_firstOf (shM_K93 hM) (by decide) (by decide) hs (fun k hk => R.1 (5 + k) (by omega)) h
theorem M_scaleOf {k : Nat} (hM : shM P K) (R : rM I hd so) (w : wf hd so) (hk : k < hd 1) (h : F (nI (sof hd k)) I J) : ckI G (d + 1) mX12_scaleOf [.ref 91, .int (nI k)] I J P K n F := by
  obtain ⟨s1, s2, s3⟩ := sof_at w hk
  have h0 := w.1
  have hc := wf_casks w
  refine bX12_scaleOf_0 _ (loopN (sof hd k) (fun j => Ok G (d + 1) mX12_scaleOf 2 [some (.ref 91), some (.int (nI k)), some (.int (nI j))] [] I J P K n (kI P K n F)) ?_ ?_ 0 (by omega))
  · refine bX12_scaleOf_2 hM _ _ ?_
    rw [nI_1]
    exact M_firstNow hM R (by omega) (br_t (nI_lt s3 (by have := wf_fst w (s := sof hd k + 1) (by omega); omega)) h)
  · intro j hj ih
    refine bX12_scaleOf_2 hM _ _ ?_
    rw [nI_1]
    refine M_firstNow hM R (by omega) (br_f (nI_nlt ?_ (by omega)) ih)
    exact Nat.le_trans (fst_le hd (show j + 1 ≤ sof hd k by omega)) s2
end ModQ
