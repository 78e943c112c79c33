/-! the reference: the doings, years, undo -/
theorem isB_t {x : Int32} {a b : Nat} (ha : a < 2147483648) (hb : b < 2147483648) (h : isB x (nI a) (nI b) = true) : ∃ z, a ≤ z ∧ z ≤ b ∧ x = nI z := by
  simp only [isB, Bool.and_eq_true, decide_eq_true_eq] at h
  rcases i_cases x with q | ⟨j, hj, rfl⟩
  · exact absurd (Int32.lt_of_lt_of_le q (Int32.le_trans (nI_pos' ha) h.1)) (Int32.lt_irrefl)
  · rw [i_le ha hj, i_le hj hb] at h
    exact ⟨j, h.1, h.2, rfl⟩
theorem isB_nI {z a b : Nat} (h1 : a ≤ z) (h2 : z ≤ b) (hb : b < 2147483648) : isB (nI z) (nI a) (nI b) = true := by
  simp only [isB, Bool.and_eq_true, decide_eq_true_eq]
  rw [i_le (by omega) (by omega), i_le (by omega) (by omega)]
  exact ⟨h1, h2⟩
/-- an act, if what it names is there -/
abbrev aQ := Option (Nat × Nat × Nat × Nat)
def oOk (hd : Nat → Nat) (o : aQ) : Prop := ∀ q, o = some q → aOk hd q.1 q.2.1 q.2.2.1 q.2.2.2
def oW (hd so : Nat → Nat) (o : aQ) : Int32 := match o with
  | none => -1
  | some q => nI (aWhy hd so q.1 q.2.1 q.2.2.1 q.2.2.2)
def oG (hd so : Nat → Nat) (o : aQ) : Bool := match o with
  | none => false
  | some q => decide (aWhy hd so q.1 q.2.1 q.2.2.1 q.2.2.2 = 0)
def oS (hd so : Nat → Nat) (o : aQ) : Nat → Nat := match o with
  | none => so
  | some q => if aWhy hd so q.1 q.2.1 q.2.2.1 q.2.2.2 = 0 then aLive hd so q.1 q.2.1 q.2.2.1 q.2.2.2 else so
def inc8 (c : Nat) : Nat := if c = 8 then 8 else c + 1
def psC (g : Bool) (c : Nat) : Nat := if g then inc8 c else c
def psU {α : Type} (g : Bool) (us : Nat → α) (a : α) : Nat → α := if g then psh us a else us
theorem wf_oS {hd so : Nat → Nat} (w : wf hd so) {o : aQ} (ok : oOk hd o) : wf hd (oS hd so o) := by
  match o, ok with
  | none, _ => exact w
  | some q, ok =>
    simp only [oS]
    split
    · rename_i e
      exact wf_live w (ok q rfl) e
    · exact w
def qDraw (hd : Nat → Nat) (x z : Int32) : aQ := if inB x (hd 1) && isB z 1 400 then some (0, cl x, 0, cl z) else none
def qRun (hd : Nat → Nat) (s : Int32) : aQ := if inB s (hd 0) then some (1, cl s, 0, 0) else none
def qTop : aQ := some (2, 0, 0, 0)
def qTip (hd : Nat → Nat) (x y z : Int32) : aQ := if inB x (hd 1) && inB y (hd 1) && isB z 1 400 then some (3, cl x, cl y, cl z) else none
def frD (I I' : sI) : Prop := (∀ c k, c ≠ 93 → c ≠ 96 → ¬ (102 ≤ c ∧ c ≤ 107) → ¬ (c = 91 ∧ k = 27) → I' c k = I c k) ∧ ∀ k, k < 815 ∨ 1678 ≤ k → I' 93 k = I 93 k
theorem frD_rf (I : sI) : frD I I := ⟨fun _ _ _ _ _ _ => rfl, fun _ _ => rfl⟩
theorem frD_tr {I I' I2 : sI} (h : frD I I') (h2 : frD I' I2) : frD I I2 := ⟨fun c k a b e f => (h2.1 c k a b e f).trans (h.1 c k a b e f), fun k a => (h2.2 k a).trans (h.2 k a)⟩
theorem frD_93 {I I' : sI} (h : fr93 I I') : frD I I' := ⟨fun c k a _ e _ => h.1 c k a e, h.2⟩
theorem frD_U {I I' : sI} (h : frU I I') : frD I I' := ⟨fun c k _ a _ e => h c k a e, fun k _ => h 93 k (by decide) (by omega)⟩
theorem rU_of {I I' : sI} {c : Nat} {us : Nat → Nat → Nat} (U : rU I c us) (f : fr93 I I') : rU I' c us := ⟨(f.1 91 27 (by decide) (by omega)).trans U.1, U.2.1, fun i j hi hj => (f.1 96 _ (by decide) (by omega)).trans (U.2.2 i j hi hj)⟩
theorem rM_U {I I' : sI} {hd so : Nat → Nat} (R : rM I hd so) (f : frU I I') : rM I' hd so := ⟨fun k hk => (f 93 k (by decide) (by omega)).trans (R.1 k hk), fun j hj => (f 93 _ (by decide) (by omega)).trans (R.2 j hj)⟩
theorem rU_91 {I : sI} {c : Nat} {us : Nat → Nat → Nat} (U : rU I c us) (v : Int32) : rU (u2 I 91 0 v) c us := ⟨(u2_k _ _ _ _ (by decide)).trans U.1, U.2.1, fun i j hi hj => (u2_a _ _ _ _ (by decide)).trans (U.2.2 i j hi hj)⟩
def yrs (hd : Nat → Nat) (k : Nat) (so : Nat → Nat) : Nat → Nat := it (fun _ so => aYear hd so) k so
theorem aYear_0 (hd so : Nat → Nat) : aYear hd so 0 = so 0 + 1 := up_s _ _ _
theorem yrs_inv {hd so : Nat → Nat} (w : wf hd so) {m : Nat} (hm : so 0 + m ≤ 39) : ∀ k, k ≤ m → wf hd (yrs hd k so) ∧ yrs hd k so 0 = so 0 + k :=
  it_inv (f := fun _ so => aYear hd so) (a := so) (fun k s => wf hd s ∧ s 0 = so 0 + k) ⟨w, rfl⟩ (fun k hk b hb => ⟨wf_year hb.1 (by omega), by
    show aYear hd b 0 = _
    rw [aYear_0, hb.2]; omega⟩)
def qYears (so : Nat → Nat) (x : Int32) : Option Nat := if isB x 1 39 then some (if cl x ≤ 39 - so 0 then cl x else 39 - so 0) else none
section ModDo
variable {G : gG} {d : Nat} {I : sI} {J : sJ} {P : sP} {K : sK} {n : Nat} {F : Int32 → sI → sJ → Prop} {FV : sI → sJ → Prop} {hd so : Nat → Nat}
theorem M_act1 {c : Nat} {us : Nat → Nat → Nat} {t x y z : Nat} (hM : shM P K) (R : rM I hd so) (w : wf hd so) (U : rU I c us) (ok : aOk hd t x y z) (h : ∀ I', rM I' hd (oS hd so (some (t, x, y, z))) → rU I' (psC (oG hd so (some (t, x, y, z))) c) (psU (oG hd so (some (t, x, y, z))) us so) → frD I I' → F (oW hd so (some (t, x, y, z))) I' J) : ckI G (d + 7) mX12_act [.ref 91, .int (nI t), .int (nI x), .int (nI y), .int (nI z), .int 1] I J P K n F := by
  have hle := aWhy_le hd so t x y z
  refine bX12_act_0 hM _ _ _ _ _ ⟨fun q => absurd q (by decide), fun _ => M_why hM R w ok ?_⟩
  simp only [oS, oG, oW, psC, psU] at h
  by_cases q : aWhy hd so t x y z = 0
  · simp only [q, decide_true, if_true] at h
    refine br_t (by rw [q]; rfl) (M_snap hM R.2 U (fun I1 U1 f1 => M_live hM (rM_U R f1) w ok q (fun I2 R2 f2 => h I2 R2 (rU_of U1 f2) (frD_tr (frD_U f1) (frD_93 f2)))))
  · simp only [q, decide_false, if_false, Bool.false_eq_true] at h
    exact br_f (nI_ne0 (by omega) (by omega)) (h I R U (frD_rf I))
theorem M_act0 (a b e f : Int32) (hM : shM P K) (h : F (-1) I J) : ckI G (d + 1) mX12_act [.ref 91, .int a, .int b, .int e, .int f, .int 0] I J P K n F :=
  bX12_act_0 hM _ _ _ _ _ ⟨fun _ => h, fun q => absurd rfl q⟩
theorem M_draw {c : Nat} {us : Nat → Nat → Nat} (x z : Int32) (hM : shM P K) (R : rM I hd so) (w : wf hd so) (U : rU I c us) (h : ∀ I', rM I' hd (oS hd so (qDraw hd x z)) → rU I' (psC (oG hd so (qDraw hd x z)) c) (psU (oG hd so (qDraw hd x z)) us so) → frD (u2 I 91 0 0) I' → F (oW hd so (qDraw hd x z)) I' J) : ckI G (d + 8) mX12_draw [.ref 91, .int x, .int z] I J P K n F := by
  have R1 := rM_91 R 0 0
  have U1 := rU_91 U 0
  have hc := wf_casks w
  refine bX12_draw_0 hM _ _ (M_isCask x hM R1 w (b01n (fun e => ?_) (fun e => M_isIn _ _ _ (b01n (fun e2 => ?_) (fun e2 => ?_)))))
  · have e3 : qDraw hd x z = none := by simp [qDraw, e]
    rw [e3] at h
    exact M_act0 _ _ _ _ hM (h _ R1 U1 (frD_rf _))
  · have e3 : qDraw hd x z = none := by simp [qDraw, e2]
    rw [e3] at h
    exact M_act0 _ _ _ _ hM (h _ R1 U1 (frD_rf _))
  · obtain ⟨k, hk, rfl⟩ := inB_t e
    obtain ⟨z, hz1, hz2, rfl⟩ := isB_t (a := 1) (b := 400) (by decide) (by decide) e2
    have e3 : qDraw hd (nI k) (nI z) = some (0, k, 0, z) := by
      simp only [qDraw, e, e2, Bool.and_self, if_true]
      rw [cl_nI (by omega), cl_nI (by omega)]
    rw [e3] at h
    exact M_act1 (t := 0) (y := 0) hM R1 w U1 (Or.inl ⟨rfl, hk, hz2⟩) h
theorem M_run {c : Nat} {us : Nat → Nat → Nat} (s : Int32) (hM : shM P K) (R : rM I hd so) (w : wf hd so) (U : rU I c us) (h : ∀ I', rM I' hd (oS hd so (qRun hd s)) → rU I' (psC (oG hd so (qRun hd s)) c) (psU (oG hd so (qRun hd s)) us so) → frD (u2 I 91 0 0) I' → F (oW hd so (qRun hd s)) I' J) : ckI G (d + 8) mX12_run [.ref 91, .int s] I J P K n F := by
  have R1 := rM_91 R 0 0
  have U1 := rU_91 U 0
  have h5 := w.1
  refine bX12_run_0 hM _ (M_isScale s hM R1 w ?_)
  cases e : inB s (hd 0)
  · have e3 : qRun hd s = none := by simp [qRun, e]
    rw [e3] at h
    exact M_act0 _ _ _ _ hM (h _ R1 U1 (frD_rf _))
  · obtain ⟨k, hk, rfl⟩ := inB_t e
    have e3 : qRun hd (nI k) = some (1, k, 0, 0) := by
      simp only [qRun, e, if_true]
      rw [cl_nI (by omega)]
    rw [e3] at h
    exact M_act1 (t := 1) (y := 0) (z := 0) hM R1 w U1 (Or.inr (Or.inl ⟨rfl, hk⟩)) h
theorem M_top {c : Nat} {us : Nat → Nat → Nat} (hM : shM P K) (R : rM I hd so) (w : wf hd so) (U : rU I c us) (h : ∀ I', rM I' hd (oS hd so qTop) → rU I' (psC (oG hd so qTop) c) (psU (oG hd so qTop) us so) → frD (u2 I 91 0 0) I' → F (oW hd so qTop) I' J) : ckI G (d + 8) mX12_top [.ref 91] I J P K n F :=
  bX12_top_0 hM (M_act1 (t := 2) (x := 0) (y := 0) (z := 0) hM (rM_91 R 0 0) w (rU_91 U 0) (Or.inr (Or.inr (Or.inl rfl))) h)
theorem M_tip {c : Nat} {us : Nat → Nat → Nat} (x y z : Int32) (hM : shM P K) (R : rM I hd so) (w : wf hd so) (U : rU I c us) (h : ∀ I', rM I' hd (oS hd so (qTip hd x y z)) → rU I' (psC (oG hd so (qTip hd x y z)) c) (psU (oG hd so (qTip hd x y z)) us so) → frD (u2 I 91 0 0) I' → F (oW hd so (qTip hd x y z)) I' J) : ckI G (d + 8) mX12_tip [.ref 91, .int x, .int y, .int z] I J P K n F := by
  have R1 := rM_91 R 0 0
  have U1 := rU_91 U 0
  have hc := wf_casks w
  refine bX12_tip_0 hM _ _ _ (M_isCask x hM R1 w (b01n (fun e => ?_) (fun e => M_isCask y hM R1 w (b01n (fun e1 => ?_) (fun e1 => M_isIn _ _ _ (b01n (fun e2 => ?_) (fun e2 => ?_)))))))
  · have e3 : qTip hd x y z = none := by simp [qTip, e]
    rw [e3] at h
    exact M_act0 _ _ _ _ hM (h _ R1 U1 (frD_rf _))
  · have e3 : qTip hd x y z = none := by simp [qTip, e1]
    rw [e3] at h
    exact M_act0 _ _ _ _ hM (h _ R1 U1 (frD_rf _))
  · have e3 : qTip hd x y z = none := by simp [qTip, e2]
    rw [e3] at h
    exact M_act0 _ _ _ _ hM (h _ R1 U1 (frD_rf _))
  · obtain ⟨k, hk, rfl⟩ := inB_t e
    obtain ⟨j, hj, rfl⟩ := inB_t e1
    obtain ⟨z, hz1, hz2, rfl⟩ := isB_t (a := 1) (b := 400) (by decide) (by decide) e2
    have e3 : qTip hd (nI k) (nI j) (nI z) = some (3, k, j, z) := by
      simp only [qTip, e, e1, e2, Bool.and_self, if_true]
      rw [cl_nI (by omega), cl_nI (by omega), cl_nI (by omega)]
    rw [e3] at h
    exact M_act1 (t := 3) hM R1 w U1 (Or.inr (Or.inr (Or.inr ⟨rfl, hk, hj, hz2⟩))) h
theorem M_least (x y : Nat) (hx : x < 2147483648) (hy : y < 2147483648) (h : F (nI (if x ≤ y then x else y)) I J) : ckI G d mX12_least [.int (nI x), .int (nI y)] I J P K n F := by
  refine bX12_least_0 _ _ ?_
  by_cases q : y ≤ x
  · refine br_t (nI_le q (by omega)) ?_
    by_cases q2 : x ≤ y
    · rw [if_pos q2, show x = y by omega] at h; exact h
    · rw [if_neg q2] at h; exact h
  · rw [if_pos (by omega)] at h
    exact br_f (nI_ge (by omega) (by omega)) h
theorem M_passYears {m : Nat} (hm : m < 2147483648) (hM : shM P K) (R : rM I hd so) (w : wf hd so) (h : ∀ I', rM I' hd (yrs hd (if m ≤ 39 - so 0 then m else 39 - so 0) so) → fr93 I I' → F (nI (if m ≤ 39 - so 0 then m else 39 - so 0)) I' J) : ckI G (d + 4) mX12_passYears [.ref 91, .int (nI m)] I J P K n F := by
  have hy : so 0 ≤ 39 := w.2.2.2.2.2.2.1
  have e0 : (39 - I 93 815 : Int32) = nI (39 - so 0) := by
    have := R.2 0 (by decide)
    rw [show 815 + 0 = 815 from rfl] at this
    rw [this]
    exact i_sub (a := 39) hy
  refine bX12_passYears_0 hM _ ?_
  rw [e0]
  refine M_least m (39 - so 0) hm (by omega) ?_
  obtain ⟨k, hk⟩ : ∃ k, (if m ≤ 39 - so 0 then m else 39 - so 0) = k := ⟨_, rfl⟩
  have hk2 : so 0 + k ≤ 39 := by rw [← hk]; split <;> omega
  rw [hk] at h ⊢
  have key := loopN k (fun i => ∀ I', rM I' hd (yrs hd i so) → fr93 I I' → Ok G (d + 4) mX12_passYears 18 [some (.ref 91), none, some (.int (nI k)), some (.int (nI i))] [] I' J P K n (kI P K n F)) ?_ ?_ 0 (by omega)
  · exact key I R (fr93_rf I)
  · intro I' R' f
    exact bX12_passYears_18 hM _ _ (br_t (nI_le (Nat.le_refl _) (by omega)) (h I' R' f))
  · intro i hi ih I' R' f
    have iv := yrs_inv w hk2 i (by omega)
    refine bX12_passYears_18 hM _ _ (br_f (nI_ge hi (by omega)) (M_oneYear hM R' iv.1 (by omega) (fun I2 R2 f2 => ?_)))
    rw [nI_1]
    exact ih I2 R2 (fr93_tr f f2)
def sYears (hd so : Nat → Nat) (x : Int32) : Nat → Nat := if isB x 1 39 && decide (so 0 ≠ 39) then yrs hd (if cl x ≤ 39 - so 0 then cl x else 39 - so 0) so else so
def vYears (so : Nat → Nat) (x : Int32) : Int32 := if isB x 1 39 then (if so 0 = 39 then 0 else nI (if cl x ≤ 39 - so 0 then cl x else 39 - so 0)) else -1
theorem wf_years (w : wf hd so) (x : Int32) : wf hd (sYears hd so x) := by
  have hy : so 0 ≤ 39 := w.2.2.2.2.2.2.1
  unfold sYears
  split
  · exact (yrs_inv w (m := if cl x ≤ 39 - so 0 then cl x else 39 - so 0) (by split <;> omega) _ (Nat.le_refl _)).1
  · exact w
theorem M_years {c : Nat} {us : Nat → Nat → Nat} (x : Int32) (hM : shM P K) (R : rM I hd so) (w : wf hd so) (U : rU I c us) (h : ∀ I', rM I' hd (sYears hd so x) → rU I' (psC (isB x 1 39 && decide (so 0 ≠ 39)) c) (psU (isB x 1 39 && decide (so 0 ≠ 39)) us so) → frD (u2 I 91 0 0) I' → F (vYears so x) I' J) : ckI G (d + 5) mX12_years [.ref 91, .int x] I J P K n F := by
  have R1 := rM_91 R 0 0
  have U1 := rU_91 U 0
  have hy : so 0 ≤ 39 := w.2.2.2.2.2.2.1
  unfold sYears vYears at h
  refine bX12_years_0 hM _ (M_isIn _ _ _ (b01n (fun e => ?_) (fun e => ?_)))
  · simp only [e, Bool.false_and, Bool.false_eq_true, if_false, psC, psU] at h
    exact h _ R1 U1 (frD_rf _)
  · have e815 : u2 I 91 0 0 93 815 = nI (so 0) := R1.2 0 (by decide)
    rw [e815]
    simp only [e, Bool.true_and, if_true] at h
    by_cases q : so 0 = 39
    · simp only [q, ne_eq, not_true, decide_false, Bool.false_eq_true, if_false, if_true, psC, psU] at h
      exact br_t (by rw [q]; rfl) (h _ R1 U1 (frD_rf _))
    · obtain ⟨m, hm1, hm2, rfl⟩ := isB_t (a := 1) (b := 39) (by decide) (by decide) e
      rw [cl_nI (by omega)] at h
      simp only [q, ne_eq, not_false_eq_true, decide_true, if_true, if_false, psC, psU] at h
      refine br_f (fun e => q ((nI_eq (b := 39) (by omega) (by decide)).mp e)) (M_snap hM R1.2 U1 (fun I1 U2 f1 => M_passYears (by omega) hM (rM_U R1 f1) w (fun I2 R2 f2 => h I2 R2 (rU_of U2 f2) (frD_tr (frD_U f1) (frD_93 f2)))))
/-- undoing -/
theorem M_undo {c : Nat} {us : Nat → Nat → Nat} (hM : shM P K) (R : rM I hd so) (U : rU I c us) (h : ∀ I', rM I' hd (if c = 0 then so else us 0) → rU I' (c - 1) (fun i => us (i + 1)) → frD (u2 I 91 0 0) I' → F (if c = 0 then -1 else nI (c - 1)) I' J) : ckI G d mX12_undo [.ref 91] I J P K n F := by
  obtain ⟨hcn, hc8, hu⟩ := U
  have R1 := rM_91 R 0 0
  refine bX12_undo_0 hM ?_
  rw [hcn]
  by_cases q : c = 0
  · simp only [q, if_true] at h
    refine br_t (by rw [q]; rfl) (h _ R1 ⟨?_, by omega, fun i j hi _ => by omega⟩ (frD_rf _))
    rw [u2_k _ _ _ _ (by decide), hcn, q]
  · simp only [q, if_false] at h
    refine br_f (nI_ne0 (by omega) (by omega)) ?_
    have e1 : nI c - 1 = nI (c - 1) := i_sub (b := 1) (by omega)
    rw [e1]
    have key := loopN 863 (fun t => ∀ I', (∀ j, j < t → I' 93 (815 + j) = nI (us 0 j)) → (∀ a k, ¬ (a = 93 ∧ 815 ≤ k ∧ k < 1678) → I' a k = u2 (u2 I 91 0 0) 91 27 (nI (c - 1)) a k) → Ok G d mX12_undo 26 [some (.ref 91), some (.int (nI t))] [] I' J P K n (kI P K n F)) ?_ ?_ 0 (by omega)
    · exact key _ (fun j hj => by omega) (fun a k _ => rfl)
    · intro I' h1 h2
      refine bX12_undo_26 hM _ (br_t (nI_le (Nat.le_refl 863) (by omega)) ?_)
      have e27 : I' 91 27 = nI (c - 1) := by rw [h2 91 27 (by omega), u2_s]
      rw [e27]
      refine h I' ⟨fun k hk => ?_, h1⟩ ⟨e27, by omega, fun i j hi hj => ?_⟩ ⟨fun a k a1 a2 a3 a4 => ?_, fun k hk => ?_⟩
      · rw [h2 93 k (by omega), u2_a _ _ _ _ (by decide)]; exact R1.1 k hk
      · rw [h2 96 _ (by omega), u2_a _ _ _ _ (by decide), u2_a _ _ _ _ (by decide), show c - 1 - 1 - i = c - 1 - (i + 1) by omega]
        exact hu (i + 1) j (by omega) hj
      · rw [h2 a k (by omega)]
        simp only [u2]
        rw [if_neg a4]
      · rw [h2 93 k (by omega), u2_a _ _ _ _ (by decide)]
    · intro t ht ih I' h1 h2
      refine bX12_undo_26 hM _ (br_f (nI_ge (b := 863) ht (by omega)) ?_)
      have e27 : I' 91 27 = nI (c - 1) := by rw [h2 91 27 (by omega), u2_s]
      have e2 : (815 + nI t : Int32) = nI (815 + t) := by show nI 815 + nI t = _; rw [i_add]
      have e3 : 863 * I' 91 27 + nI t = nI (863 * (c - 1) + t) := by rw [e27]; show nI 863 * nI (c - 1) + nI t = _; rw [i_mul, i_add]
      rw [e2, e3, nI_ck (by omega), nI_ck (by omega), nI_1]
      refine ⟨nI_inN (by omega) (by omega), nI_inN (by omega) (by omega), ?_⟩
      have e4 : I' 96 (863 * (c - 1) + t) = nI (us 0 t) := by
        rw [h2 96 _ (by omega), u2_a _ _ _ _ (by decide), u2_a _ _ _ _ (by decide)]
        exact hu 0 t (by omega) ht
      rw [e4]
      refine ih _ (fun j hj => ?_) (fun a k hk => ?_)
      · by_cases q : j = t
        · subst q; rw [u2_s]
        · rw [u2_k _ _ _ _ (by omega)]; exact h1 j (by omega)
      · rw [← h2 a k hk]
        simp only [u2]
        rw [if_neg (by omega)]
end ModDo
