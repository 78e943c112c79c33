/-! the reference's questions -/
def cl (x : Int32) : Nat := x.toNatClampNeg
def qCask (hd so : Nat → Nat) (x w : Int32) : Int32 := if inB x (hd 1) then (if w = 0 then nI (sof hd (cl x)) else if w = 1 then nI (cl x - fst' hd (sof hd (cl x))) else if w = 2 then nI (ltr so (cl x)) else if w = 3 then nI (lck hd so (cl x)) else if w = 4 then nI (so (43 + cl x)) else if w = 5 then oI (lo (wn so (cl x)) 40) else if w = 6 then oI (hi (wn so (cl x)) 40) else -1) else -1
def qScale (hd so : Nat → Nat) (x w : Int32) : Int32 := if inB x (hd 0) then (if w = 0 then nI (hd (5 + cl x)) else if w = 1 then nI (hd (10 + cl x)) else if w = 2 then nI (ssc hd (ltr so) (cl x)) else if w = 3 then nI (ssc hd (lck hd so) (cl x)) else -1) else -1
def qLitres (hd so : Nat → Nat) (x v : Int32) : Option Int32 := if inB x (hd 1) && inB v 40 then some (nI (wn so (cl x) (cl v))) else none
def frac (a b : Nat) (w : Int32) : Int32 := nI ((if w = 0 then a else b) / Nat.gcd b a)
def qAge (hd so : Nat → Nat) (x w : Int32) : Option Int32 := if inB x (hd 1) && inB w 2 && decide (0 < ltr so (cl x)) then some (frac (ags so (cl x)) (ltr so (cl x)) w) else none
def qOld (hd so : Nat → Nat) (x w : Int32) : Option Int32 := if inB x (hd 0) && inB w 2 && decide (0 < ssc hd (ltr so) (cl x)) then some (frac (ssc hd (ags so) (cl x)) (ssc hd (ltr so) (cl x)) w) else none
def qMean (hd so : Nat → Nat) (x w : Int32) : Option Int32 := if inB x (hd 0) && inB w 2 then some (frac (ssc hd (ltr so) (cl x)) (hd (5 + cl x)) w) else none
def qPart (hd so : Nat → Nat) (x w : Int32) : Option Int32 := if inB x (hd 0) && inB w 2 && decide (0 < sm (ltr so) (hd 1)) then some (frac (ssc hd (ltr so) (cl x)) (sm (ltr so) (hd 1)) w) else none
def btl (so : Nat → Nat) (v : Nat) : Nat := so (3 + v)
def qNow (hd so : Nat → Nat) (w : Int32) : Int32 := if w = 0 then nI (so 0) else if w = 1 then nI (sm (ltr so) (hd 1)) else if w = 2 then bs (fun k => decide (lck hd so k = 0)) (hd 1) else if w = 3 then bs (fun k => decide (ltr so k = 0)) (hd 1) else if w = 4 then nI (so 1) else if w = 5 then nI (so 2) else if w = 6 then nI (sm (btl so) 40) else -1
def qBottle (so : Nat → Nat) (v : Int32) : Int32 := if inB v 40 then nI (btl so (cl v)) else -1
def qOlder (hd so : Nat → Nat) (a : Int32) : Int32 := if inB a 40 then nI (sm (odl so (cl a)) (hd 1)) else -1
def qWhere (hd so : Nat → Nat) (v : Int32) : Int32 := if inB v 40 then bs (fun k => decide (0 < wn so k (cl v))) (hd 1) else -1
def qCount (hd : Nat → Nat) (tl : Nat) (w : Int32) : Int32 := if w = 0 then nI (hd 0) else if w = 1 then nI (hd 1) else if w = 2 then nI (hd 2) else if w = 3 then nI (hd 3) else if w = 4 then nI (hd 4) else if w = 5 then nI tl else -1
theorem cl_nI {k : Nat} (h : k < 2147483648) : cl (nI k) = k := nI_ck h
theorem rM_91 {I : sI} {hd so : Nat → Nat} (R : rM I hd so) (k : Nat) (v : Int32) : rM (u2 I 91 k v) hd so := ⟨fun j hj => by rw [u2_a _ _ _ _ (by decide)]; exact R.1 j hj, fun j hj => by rw [u2_a _ _ _ _ (by decide)]; exact R.2 j hj⟩
/-- a question that may be refused -/
def refd (q : Option Int32) (F : Int32 → sI → sJ → Prop) (I : sI) (J : sJ) : Prop := match q with
  | some v => F v (u2 I 91 0 0) J
  | none => F 0 (u2 (u2 I 91 0 0) 91 0 1) J
theorem isB01 (w : Int32) : isB w 0 1 = inB w 2 := by
  have := isB_0 w (N := 2) (by decide)
  have e : nI 2 - 1 = 1 := by decide
  rw [e] at this
  exact this
section ModAsk
variable {G : gG} {d : Nat} {I : sI} {J : sJ} {P : sP} {K : sK} {n : Nat} {F : Int32 → sI → sJ → Prop} {FV : sI → sJ → Prop} {hd so : Nat → Nat}
theorem b01n {A B : Prop} {b : Bool} (h0 : b = false → A) (h1 : b = true → B) : (b01 b = 0 → A) ∧ (¬ b01 b = 0 → B) := by
  cases b with
  | false => exact br_t rfl (h0 rfl)
  | true => exact br_f (by decide) (h1 rfl)
theorem M_cask (x w : Int32) (hM : shM P K) (R : rM I hd so) (wf0 : wf hd so) (h : F (qCask hd so x w) (u2 I 91 0 0) J) : ckI G (d + 4) mX12_cask [.ref 91, .int x, .int w] I J P K n F := by
  have R1 := rM_91 R 0 0
  have hc := wf_casks wf0
  unfold qCask at h
  refine bX12_cask_0 hM _ _ (M_isCask x hM R1 wf0 (b01n (fun e => ?_) (fun e => ?_)))
  · rw [e] at h; exact h
  · rw [e, if_pos rfl] at h
    obtain ⟨k, hk, rfl⟩ := inB_t e
    rw [cl_nI (by omega)] at h
    have hsf := sof_at wf0 hk
    have h5 := wf0.1
    refine ⟨fun q => ?_, fun q => ?_, fun q => ?_, fun q => ?_, fun q => ?_, fun q => ?_, fun q => ?_, fun q0 q1 q2 q3 q4 q5 q6 => ?_⟩
    · subst q; exact M_scaleOf hM R1 wf0 hk h
    · subst q
      refine M_scaleOf hM R1 wf0 hk (M_firstNow hM R1 (by omega) ?_)
      rw [i_sub hsf.2.1]
      exact h
    · subst q; exact M_litresOf hM R1 (by omega) h
    · subst q; exact M_lacks hM R1 wf0 hk h
    · subst q
      have e1 : (858 + nI k : Int32) = nI (858 + k) := by show nI 858 + nI k = _; rw [i_add]
      have e2 := R1.2 (43 + k) (by omega)
      rw [show 815 + (43 + k) = 858 + k by omega] at e2
      rw [e1, nI_ck (by omega), e2]
      exact ⟨nI_inN (by omega) (by omega), h⟩
    · subst q; exact M_vintageOld hM R1 wf0 hk h
    · subst q; exact M_vintageYoung hM R1 wf0 hk h
    · rw [if_neg q0, if_neg q1, if_neg q2, if_neg q3, if_neg q4, if_neg q5, if_neg q6] at h; exact h
theorem M_scale (x w : Int32) (hM : shM P K) (R : rM I hd so) (wf0 : wf hd so) (h : F (qScale hd so x w) (u2 I 91 0 0) J) : ckI G (d + 5) mX12_scale [.ref 91, .int x, .int w] I J P K n F := by
  have R1 := rM_91 R 0 0
  have h5 := wf0.1
  unfold qScale at h
  refine bX12_scale_0 hM _ _ (M_isScale x hM R1 wf0 (b01n (fun e => ?_) (fun e => ?_)))
  · rw [e] at h; exact h
  · rw [e, if_pos rfl] at h
    obtain ⟨s, hs, rfl⟩ := inB_t e
    rw [cl_nI (by omega)] at h
    refine ⟨fun q => ?_, fun q => ?_, fun q => ?_, fun q => ?_, fun q0 q1 q2 q3 => ?_⟩
    · subst q
      have e1 : (5 + nI s : Int32) = nI (5 + s) := by show nI 5 + nI s = _; rw [i_add]
      rw [e1, nI_ck (by omega), R1.1 _ (by omega)]
      exact ⟨nI_inN (by omega) (by omega), h⟩
    · subst q
      have e1 : (10 + nI s : Int32) = nI (10 + s) := by show nI 10 + nI s = _; rw [i_add]
      rw [e1, nI_ck (by omega), R1.1 _ (by omega)]
      exact ⟨nI_inN (by omega) (by omega), h⟩
    · subst q; exact M_sumOf 0 (ltr so) hM R1 wf0 hs (Or.inl ⟨rfl, rfl⟩) h
    · subst q; exact M_sumOf 1 (lck hd so) hM R1 wf0 hs (Or.inr (Or.inl ⟨rfl, rfl⟩)) h
    · rw [if_neg q0, if_neg q1, if_neg q2, if_neg q3] at h; exact h
theorem M_litres (x v : Int32) (hM : shM P K) (R : rM I hd so) (wf0 : wf hd so) (h : refd (qLitres hd so x v) F I J) : ckI G (d + 2) mX12_litres [.ref 91, .int x, .int v] I J P K n F := by
  have R1 := rM_91 R 0 0
  have hc := wf_casks wf0
  unfold qLitres at h
  refine bX12_litres_0 hM _ _ (M_isCask x hM R1 wf0 (b01n (fun e => ?_) (fun e => ?_)))
  · rw [e] at h; exact M_refuse hM h
  · obtain ⟨k, hk, rfl⟩ := inB_t e
    refine M_isVintage v (b01n (fun e2 => ?_) (fun e2 => ?_))
    · rw [e2, Bool.and_false] at h; exact M_refuse hM h
    · obtain ⟨v, hv, rfl⟩ := inB_t e2
      rw [e, e2, cl_nI (by omega), cl_nI (by omega)] at h
      refine M_wineAt k ?_
      rw [i_add, nI_ck (by omega), rM_wn R1 (by omega) hv]
      exact ⟨nI_inN (by omega) (by omega), h⟩
theorem inB2 {w : Int32} (h : inB w 2 = true) : ∃ j, j < 2 ∧ w = nI j ∧ ((w = 0) ↔ j = 0) := by
  obtain ⟨j, hj, rfl⟩ := inB_t h
  refine ⟨j, hj, rfl, ?_⟩
  have := nI_eq (a := j) (b := 0) (by omega) (by decide)
  exact this
theorem M_frac {a b : Nat} {w : Int32} (hw : inB w 2 = true) (ha : a < 2147483648) (hb : b < 2147483648) (h0 : 0 < b) (h : F (frac a b w) I J) : ckI G (d + 1) mX12_partOf [.ref 91, .int (nI a), .int (nI b), .int w] I J P K n F := by
  obtain ⟨j, hj, e, hi⟩ := inB2 hw
  unfold frac at h
  rw [e]
  refine M_partOf j hj ha hb h0 ?_
  by_cases q : j = 0
  · rw [if_pos (hi.mpr q)] at h; rw [if_pos q]; exact h
  · rw [if_neg (fun z => q (hi.mp z))] at h; rw [if_neg q]; exact h
theorem ags_le {hd so : Nat → Nat} (w : wf hd so) {k : Nat} (hk : k < hd 1) : ags so k ≤ 16000 := by
  have h1 := ltr_ages (so := so) (k := k)
  have h2 := wf_ltr w hk
  have h3 : so 0 ≤ 39 := w.2.2.2.2.2.2.1
  have : so 0 * ltr so k ≤ 39 * 400 := Nat.mul_le_mul h3 h2
  omega
theorem M_age (x w : Int32) (hM : shM P K) (R : rM I hd so) (wf0 : wf hd so) (h : refd (qAge hd so x w) F I J) : ckI G (d + 2) mX12_age [.ref 91, .int x, .int w] I J P K n F := by
  have R1 := rM_91 R 0 0
  have hc := wf_casks wf0
  unfold qAge at h
  refine bX12_age_0 hM _ _ (M_isCask x hM R1 wf0 (b01n (fun e => ?_) (fun e => ?_)))
  · rw [e] at h; exact M_refuse hM h
  · obtain ⟨k, hk, rfl⟩ := inB_t e
    rw [e, cl_nI (by omega)] at h
    have hl := wf_ltr wf0 hk
    refine M_litresOf hM R1 (by omega) ?_
    by_cases q : ltr so k = 0
    · rw [q] at h
      simp only [Nat.lt_irrefl, decide_false, Bool.and_false] at h
      exact br_t (by rw [q]; rfl) (M_refuse hM h)
    · refine br_f (nI_ne0 (by omega) (by omega)) (M_isIn _ _ _ ?_)
      rw [isB01]
      refine b01n (fun e2 => ?_) (fun e2 => ?_)
      · rw [e2] at h; exact M_refuse hM h
      · have hp : 0 < ltr so k := by omega
        rw [e2] at h
        simp only [hp, decide_true, Bool.and_self, if_true] at h
        exact M_agesOf hM R1 wf0 hk (M_litresOf hM R1 (by omega) (M_frac e2 (by have := ags_le wf0 hk; omega) (by omega) hp h))
theorem ssc_ags {hd so : Nat → Nat} (w : wf hd so) {s : Nat} (hs : s < hd 0) : ssc hd (ags so) s ≤ 64000 := by
  have h1 : ssc hd (ags so) s ≤ hd (5 + s) * 16000 := sm_bound (fun i hi => ags_le w (wf_in w hs hi))
  have h2 := (w.2.1 s hs).2.1
  have : hd (5 + s) * 16000 ≤ 4 * 16000 := Nat.mul_le_mul_right _ h2
  omega
theorem M_old (x w : Int32) (hM : shM P K) (R : rM I hd so) (wf0 : wf hd so) (h : refd (qOld hd so x w) F I J) : ckI G (d + 5) mX12_old [.ref 91, .int x, .int w] I J P K n F := by
  have R1 := rM_91 R 0 0
  have h5 := wf0.1
  unfold qOld at h
  refine bX12_old_0 hM _ _ (M_isScale x hM R1 wf0 (b01n (fun e => ?_) (fun e => ?_)))
  · rw [e] at h; exact M_refuse hM h
  · obtain ⟨s, hs, rfl⟩ := inB_t e
    rw [e, cl_nI (by omega)] at h
    have hl := ssc_le wf0 hs (f := ltr so) (fun k hk => wf_ltr wf0 hk)
    refine M_sumOf 0 (ltr so) hM R1 wf0 hs (Or.inl ⟨rfl, rfl⟩) ?_
    by_cases q : ssc hd (ltr so) s = 0
    · rw [q] at h
      simp only [Nat.lt_irrefl, decide_false, Bool.and_false] at h
      exact br_t (by rw [q]; rfl) (M_refuse hM h)
    · refine br_f (nI_ne0 (by omega) (by omega)) (M_isIn _ _ _ ?_)
      rw [isB01]
      refine b01n (fun e2 => ?_) (fun e2 => ?_)
      · rw [e2] at h; exact M_refuse hM h
      · have hp : 0 < ssc hd (ltr so) s := by omega
        rw [e2] at h
        simp only [hp, decide_true, Bool.and_self, if_true] at h
        exact M_sumOf 2 (ags so) hM R1 wf0 hs (Or.inr (Or.inr ⟨rfl, rfl⟩)) (M_sumOf 0 (ltr so) hM R1 wf0 hs (Or.inl ⟨rfl, rfl⟩) (M_frac e2 (by have := ssc_ags wf0 hs; omega) (by omega) hp h))
theorem M_mean (x w : Int32) (hM : shM P K) (R : rM I hd so) (wf0 : wf hd so) (h : refd (qMean hd so x w) F I J) : ckI G (d + 5) mX12_mean [.ref 91, .int x, .int w] I J P K n F := by
  have R1 := rM_91 R 0 0
  have h5 := wf0.1
  unfold qMean at h
  refine bX12_mean_0 hM _ _ (M_isScale x hM R1 wf0 (b01n (fun e => ?_) (fun e => ?_)))
  · rw [e] at h; exact M_refuse hM h
  · obtain ⟨s, hs, rfl⟩ := inB_t e
    rw [e, cl_nI (by omega)] at h
    have hl := ssc_le wf0 hs (f := ltr so) (fun k hk => wf_ltr wf0 hk)
    obtain ⟨z1, z2, -⟩ := wf0.2.1 s hs
    refine M_isIn _ _ _ ?_
    rw [isB01]
    refine b01n (fun e2 => ?_) (fun e2 => ?_)
    · rw [e2] at h; exact M_refuse hM h
    · rw [e2] at h
      simp only [Bool.and_self, if_true] at h
      refine M_sumOf 0 (ltr so) hM R1 wf0 hs (Or.inl ⟨rfl, rfl⟩) ?_
      have e1 : (5 + nI s : Int32) = nI (5 + s) := by show nI 5 + nI s = _; rw [i_add]
      rw [e1, nI_ck (by omega), R1.1 _ (by omega)]
      exact ⟨nI_inN (by omega) (by omega), M_frac e2 (by omega) (by omega) (by omega) h⟩
theorem all_le {hd so : Nat → Nat} (w : wf hd so) : sm (ltr so) (hd 1) ≤ 8000 := by
  have h1 : sm (ltr so) (hd 1) ≤ hd 1 * 400 := sm_bound (fun k hk => wf_ltr w hk)
  have h2 := wf_casks w
  have : hd 1 * 400 ≤ 20 * 400 := Nat.mul_le_mul_right _ h2
  omega
theorem M_part (x w : Int32) (hM : shM P K) (R : rM I hd so) (wf0 : wf hd so) (h : refd (qPart hd so x w) F I J) : ckI G (d + 5) mX12_part [.ref 91, .int x, .int w] I J P K n F := by
  have R1 := rM_91 R 0 0
  have h5 := wf0.1
  have ha := all_le wf0
  unfold qPart at h
  refine bX12_part_0 hM _ _ (M_litresAll hM R1 wf0 (M_isScale x hM R1 wf0 (b01n (fun e => ?_) (fun e => ?_))))
  · rw [e] at h; exact M_refuse hM h
  · obtain ⟨s, hs, rfl⟩ := inB_t e
    rw [e, cl_nI (by omega)] at h
    have hl := ssc_le wf0 hs (f := ltr so) (fun k hk => wf_ltr wf0 hk)
    by_cases q : sm (ltr so) (hd 1) = 0
    · rw [q] at h
      simp only [Nat.lt_irrefl, decide_false, Bool.and_false] at h
      exact br_t (by rw [q]; rfl) (M_refuse hM h)
    · refine br_f (nI_ne0 (by omega) (by omega)) (M_isIn _ _ _ ?_)
      rw [isB01]
      refine b01n (fun e2 => ?_) (fun e2 => ?_)
      · rw [e2] at h; exact M_refuse hM h
      · have hp : 0 < sm (ltr so) (hd 1) := by omega
        rw [e2] at h
        simp only [hp, decide_true, Bool.and_self, if_true] at h
        exact M_sumOf 0 (ltr so) hM R1 wf0 hs (Or.inl ⟨rfl, rfl⟩) (M_frac e2 (by omega) (by omega) hp h)
theorem M_now (w : Int32) (hM : shM P K) (R : rM I hd so) (wf0 : wf hd so) (h : F (qNow hd so w) (u2 I 91 0 0) J) : ckI G (d + 5) mX12_now [.ref 91, .int w] I J P K n F := by
  have R1 := rM_91 R 0 0
  unfold qNow at h
  refine bX12_now_0 hM _ ⟨fun q => ?_, fun q => ?_, fun q => ?_, fun q => ?_, fun q => ?_, fun q => ?_, fun q => ?_, fun q0 q1 q2 q3 q4 q5 q6 => ?_⟩
  · subst q; rw [rM_year R]; exact h
  · subst q; exact M_litresAll hM R1 wf0 h
  · subst q; exact M_casksThat true hM R1 wf0 h
  · subst q; exact M_casksThat false hM R1 wf0 h
  · subst q; rw [R.2 1 (by decide)]; exact h
  · subst q; rw [R.2 2 (by decide)]; exact h
  · subst q
    exact M_litresIn (q := 818) (f := btl so) (shM_K93 hM) (by decide) (by decide) (fun v hv => by have := R1.2 (3 + v) (by omega); rw [show 815 + (3 + v) = 818 + v by omega] at this; exact this) h
  · rw [if_neg q0, if_neg q1, if_neg q2, if_neg q3, if_neg q4, if_neg q5, if_neg q6] at h; exact h
theorem M_bottle (v : Int32) (hM : shM P K) (R : rM I hd so) (h : F (qBottle so v) (u2 I 91 0 0) J) : ckI G (d + 2) mX12_bottle [.ref 91, .int v] I J P K n F := by
  have R1 := rM_91 R 0 0
  unfold qBottle at h
  refine bX12_bottle_0 hM _ (M_isVintage v (b01n (fun e => ?_) (fun e => ?_)))
  · rw [e] at h; exact h
  · obtain ⟨v, hv, rfl⟩ := inB_t e
    rw [e, if_pos rfl, cl_nI (by omega)] at h
    have e1 : (818 + nI v : Int32) = nI (818 + v) := by show nI 818 + nI v = _; rw [i_add]
    have e2 := R1.2 (3 + v) (by omega)
    rw [show 815 + (3 + v) = 818 + v by omega] at e2
    rw [e1, nI_ck (by omega), e2]
    exact ⟨nI_inN (by omega) (by omega), h⟩
theorem M_older (a : Int32) (hM : shM P K) (R : rM I hd so) (wf0 : wf hd so) (h : F (qOlder hd so a) (u2 I 91 0 0) J) : ckI G (d + 2) mX12_older [.ref 91, .int a] I J P K n F := by
  have R1 := rM_91 R 0 0
  have hc := wf_casks wf0
  unfold qOlder at h
  refine bX12_older_0 hM _ (M_isVintage a (b01n (fun e => ?_) (fun e => ?_)))
  · rw [e] at h; exact h
  · obtain ⟨a, ha, rfl⟩ := inB_t e
    rw [e, if_pos rfl, cl_nI (by omega)] at h
    have key := loopN (hd 1) (fun j => Ok G (d + 2) mX12_older 19 [some (.ref 91), some (.int (nI a)), some (.int (nI (sm (odl so a) j))), some (.int (nI j))] [] (u2 I 91 0 0) J P K n (kI P K n F)) ?_ ?_ 0 (by omega)
    · exact key
    · refine bX12_older_19 hM _ _ _ ?_
      rw [R1.1 1 (by decide)]
      exact br_t (nI_le (Nat.le_refl _) (by omega)) h
    · intro j hj ih
      refine bX12_older_19 hM _ _ _ ?_
      rw [R1.1 1 (by decide)]
      refine br_f (nI_ge hj (by omega)) (M_olderIn hM R1 wf0 hj ha ?_)
      rw [i_add, nI_1]
      exact ih
theorem M_where (v : Int32) (hM : shM P K) (R : rM I hd so) (wf0 : wf hd so) (h : F (qWhere hd so v) (u2 I 91 0 0) J) : ckI G (d + 2) mX12_where [.ref 91, .int v] I J P K n F := by
  have R1 := rM_91 R 0 0
  have hc := wf_casks wf0
  unfold qWhere at h
  refine bX12_where_0 hM _ (M_isVintage v (b01n (fun e => ?_) (fun e => ?_)))
  · rw [e] at h; exact h
  · obtain ⟨v, hv, rfl⟩ := inB_t e
    rw [e, if_pos rfl, cl_nI (by omega)] at h
    have key := loopN (hd 1) (fun j => Ok G (d + 2) mX12_where 19 [some (.ref 91), some (.int (nI v)), some (.int (bs (fun k => decide (0 < wn so k v)) j)), some (.int (nI j))] [] (u2 I 91 0 0) J P K n (kI P K n F)) ?_ ?_ 0 (by omega)
    · exact key
    · refine bX12_where_19 hM _ _ _ ?_
      rw [R1.1 1 (by decide)]
      exact br_t (nI_le (Nat.le_refl _) (by omega)) h
    · intro j hj ih
      refine bX12_where_19 hM _ _ _ ?_
      rw [R1.1 1 (by decide)]
      have hw := wf_wn wf0 hj hv
      refine br_f (nI_ge hj (by omega)) (M_wineAt j ?_)
      rw [i_add, nI_ck (by omega), rM_wn R1 (by omega) hv, nI_1]
      refine ⟨nI_inN (by omega) (by omega), ?_⟩
      simp only [bs] at ih
      rcases Nat.eq_zero_or_pos (wn so j v) with q | q
      · have hz : ¬ 0 < wn so j v := by omega
        simp only [hz, decide_false, Bool.false_eq_true, if_false] at ih
        exact br_t (by rw [q]; exact nI_le (b := 0) (Nat.le_refl 0) (by decide)) ih
      · simp only [q, decide_true, if_true] at ih
        exact br_f (nI_ge (a := 0) q (by omega)) ih
theorem M_count {tl : Nat} (w : Int32) (hM : shM P K) (R : rM I hd so) (ht : I 91 2 = nI tl) (h : F (qCount hd tl w) (u2 I 91 0 0) J) : ckI G d mX12_count [.ref 91, .int w] I J P K n F := by
  unfold qCount at h
  refine bX12_count_0 hM _ ⟨fun q => ?_, fun q => ?_, fun q => ?_, fun q => ?_, fun q => ?_, fun q => ?_, fun q0 q1 q2 q3 q4 q5 => ?_⟩
  · subst q; rw [R.1 0 (by decide)]; exact h
  · subst q; rw [R.1 1 (by decide)]; exact h
  · subst q; rw [R.1 2 (by decide)]; exact h
  · subst q; rw [R.1 3 (by decide)]; exact h
  · subst q; rw [R.1 4 (by decide)]; exact h
  · subst q; rw [ht]; exact h
  · rw [if_neg q0, if_neg q1, if_neg q2, if_neg q3, if_neg q4, if_neg q5] at h; exact h
end ModAsk
