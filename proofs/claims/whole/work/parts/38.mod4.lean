/-! the reference: why not, living an act, snapshots -/
section ModWhy
variable {G : gG} {d : Nat} {I : sI} {J : sJ} {P : sP} {K : sK} {n : Nat} {F : Int32 → sI → sJ → Prop} {FV : sI → sJ → Prop} {hd so : Nat → Nat}
theorem M_whyRun {s : Nat} (hM : shM P K) (R : rM I hd so) (w : wf hd so) (hs : s < hd 0) (h : F (nI (wRun hd so s)) I J) : ckI G (d + 5) mX12_whyRun [.ref 91, .int (nI s)] I J P K n F := by
  have h5 := w.1
  have hL := ssc_le w hs (f := lck hd so) (fun k hk => lck_le w hk)
  have e0 : I 93 0 - 1 = nI (hd 0 - 1) := by rw [R.1 0 (by decide)]; exact i_sub (b := 1) (by omega)
  refine bX12_whyRun_0 hM _ (M_sumOf 1 (lck hd so) hM R w hs (Or.inr (Or.inl ⟨rfl, rfl⟩)) ?_)
  unfold wRun at h
  by_cases q : ssc hd (lck hd so) s = 0
  · rw [if_pos q] at h
    exact br_t (by rw [q]; rfl) h
  rw [if_neg q] at h
  refine br_f (nI_ne0 (by omega) (by omega)) ?_
  rw [e0]
  by_cases q2 : s + 1 = hd 0
  · rw [if_pos q2] at h
    exact br_t (by congr 1; omega) h
  rw [if_neg q2] at h
  refine br_f (fun e => q2 (by have := (nI_eq (by omega) (by omega)).mp e; omega)) ?_
  have hO := ssc_le w (s := s + 1) (by omega) (f := ltr so) (fun k hk => wf_ltr w hk)
  rw [nI_1]
  refine M_sumOf 0 (ltr so) hM R w (by omega) (Or.inl ⟨rfl, rfl⟩) (M_sumOf 1 (lck hd so) hM R w hs (Or.inr (Or.inl ⟨rfl, rfl⟩)) ?_)
  by_cases q3 : ssc hd (ltr so) (s + 1) < ssc hd (lck hd so) s
  · rw [if_pos q3] at h
    exact br_f (nI_ge q3 (by omega)) h
  · rw [if_neg q3] at h
    exact br_t (nI_le (by omega) (by omega)) h
theorem M_whyTip {k j x : Nat} (hM : shM P K) (R : rM I hd so) (w : wf hd so) (hk : k < hd 1) (hj : j < hd 1) (hx : x ≤ 400) (h : F (nI (wTip hd so k j x)) I J) : ckI G (d + 4) mX12_whyTip [.ref 91, .int (nI k), .int (nI j), .int (nI x)] I J P K n F := by
  have hc := wf_casks w
  have hl := wf_ltr w hk
  have hl2 := lck_le w hj
  unfold wTip at h
  refine bX12_whyTip_0 hM _ _ _ ?_
  by_cases q : k = j
  · subst q
    rw [if_pos rfl] at h
    exact br_t rfl h
  rw [if_neg q] at h
  refine br_f (fun e => q ((nI_eq (by omega) (by omega)).mp e)) (M_litresOf hM R (by omega) ?_)
  by_cases q2 : ltr so k < x
  · rw [if_pos q2] at h
    exact br_f (nI_ge q2 (by omega)) h
  rw [if_neg q2] at h
  refine br_t (nI_le (by omega) (by omega)) (M_lacks hM R w hj ?_)
  by_cases q3 : lck hd so j < x
  · rw [if_pos q3] at h
    exact br_f (nI_ge q3 (by omega)) h
  · rw [if_neg q3] at h
    exact br_t (nI_le (by omega) (by omega)) h
theorem M_why {t x y z : Nat} (hM : shM P K) (R : rM I hd so) (w : wf hd so) (ok : aOk hd t x y z) (h : F (nI (aWhy hd so t x y z)) I J) : ckI G (d + 6) mX12_why [.ref 91, .int (nI t), .int (nI x), .int (nI y), .int (nI z)] I J P K n F := by
  have hc := wf_casks w
  have h5 := w.1
  refine bX12_why_0 hM _ _ _ _ ?_
  unfold aWhy at h
  rcases ok with ⟨e, h1, h2⟩ | ⟨e, h1⟩ | e | ⟨e, h1, h2, h3⟩
  · subst e
    rw [if_pos rfl] at h
    have hl := wf_ltr w h1
    have hd3 := w.2.2.2.2.1.2
    have hdr := w.2.2.2.2.2.2.2.2.2.1 x (by omega)
    refine ⟨fun _ => M_litresOf hM R (by omega) ?_, fun q => absurd q (by decide), fun q => absurd q (by decide), fun q => absurd rfl q⟩
    unfold wDraw at h
    by_cases q2 : ltr so x < z
    · rw [if_pos q2] at h
      exact br_f (nI_ge q2 (by omega)) h
    rw [if_neg q2] at h
    have e1 : (858 + nI x : Int32) = nI (858 + x) := by show nI 858 + nI x = _; rw [i_add]
    have e2 : I 93 (858 + x) = nI (so (43 + x)) := by
      have := R.2 (43 + x) (by omega)
      rw [show 815 + (43 + x) = 858 + x by omega] at this
      exact this
    refine br_t (nI_le (by omega) (by omega)) ?_
    rw [e1, nI_ck (by omega), e2, i_add, R.1 3 (by decide)]
    refine ⟨nI_inN (by omega) (by omega), ?_⟩
    by_cases q3 : hd 3 < so (43 + x) + z
    · rw [if_pos q3] at h
      exact br_f (nI_ge q3 (by omega)) h
    · rw [if_neg q3] at h
      exact br_t (nI_le (by omega) (by omega)) h
  · subst e
    rw [if_neg (by decide), if_pos rfl] at h
    exact ⟨fun q => absurd q (by decide), fun _ => M_whyRun hM R w h1 h, fun q => absurd q (by decide), fun _ q => absurd rfl q⟩
  · subst e
    rw [if_neg (by decide), if_neg (by decide), if_pos rfl] at h
    refine ⟨fun q => absurd q (by decide), fun q => absurd q (by decide), fun _ => ?_, fun _ _ q => absurd rfl q⟩
    unfold wTop at h
    rw [R.1 0 (by decide)]
    by_cases q : hd 0 = 0
    · rw [if_pos q] at h
      exact br_t (by rw [q]; rfl) h
    rw [if_neg q] at h
    refine br_f (nI_ne0 (by omega) (by omega)) ?_
    have e0 : nI (hd 0) - 1 = nI (hd 0 - 1) := i_sub (b := 1) (by omega)
    have hL := ssc_le w (s := hd 0 - 1) (by omega) (f := lck hd so) (fun k hk => lck_le w hk)
    rw [e0]
    refine M_sumOf 1 (lck hd so) hM R w (by omega) (Or.inr (Or.inl ⟨rfl, rfl⟩)) ?_
    by_cases q2 : ssc hd (lck hd so) (hd 0 - 1) = 0
    · rw [if_pos q2] at h
      exact br_t (by rw [q2]; rfl) h
    · rw [if_neg q2] at h
      exact br_f (nI_ne0 (by omega) (by omega)) h
  · subst e
    rw [if_neg (by decide), if_neg (by decide), if_neg (by decide)] at h
    exact ⟨fun q => absurd q (by decide), fun q => absurd q (by decide), fun q => absurd q (by decide), fun _ _ _ => M_whyTip hM R w h1 h2 h3 h⟩
theorem aWhy_le (hd so : Nat → Nat) (t x y z : Nat) : aWhy hd so t x y z ≤ 3 := by
  unfold aWhy wDraw wRun wTop wTip
  repeat' split
  all_goals omega
theorem M_live {t x y z : Nat} (hM : shM P K) (R : rM I hd so) (w : wf hd so) (ok : aOk hd t x y z) (hw : aWhy hd so t x y z = 0) (h : ∀ I', rM I' hd (aLive hd so t x y z) → fr93 I I' → FV I' J) : ckV G (d + 6) mX12_live [.ref 91, .int (nI t), .int (nI x), .int (nI y), .int (nI z)] I J P K n FV := by
  have hc := wf_casks w
  refine bX12_live_0 hM _ _ _ _ ?_
  unfold aLive at h
  rcases ok with ⟨e, h1, h2⟩ | ⟨e, h1⟩ | e | ⟨e, h1, h2, h3⟩
  · subst e
    rw [if_pos rfl] at h
    simp only [aWhy, if_true, wDraw] at hw
    split at hw
    · cases hw
    · exact ⟨fun _ => M_draws hM R w h1 (by omega) h, fun q => absurd q (by decide), fun q => absurd q (by decide), fun q => absurd rfl q⟩
  · subst e
    rw [if_neg (by decide), if_pos rfl] at h
    simp only [aWhy, wRun] at hw
    rw [if_neg (by decide), if_pos trivial] at hw
    split at hw
    · cases hw
    · split at hw
      · cases hw
      · split at hw
        · cases hw
        · exact ⟨fun q => absurd q (by decide), fun _ => M_runs hM R w (by omega) (by omega) h, fun q => absurd q (by decide), fun _ q => absurd rfl q⟩
  · subst e
    rw [if_neg (by decide), if_neg (by decide), if_pos rfl] at h
    simp only [aWhy, wTop] at hw
    rw [if_neg (by decide), if_neg (by decide), if_pos trivial] at hw
    split at hw
    · cases hw
    · exact ⟨fun q => absurd q (by decide), fun q => absurd q (by decide), fun _ => M_tops hM R w (by omega) h, fun _ _ q => absurd rfl q⟩
  · subst e
    rw [if_neg (by decide), if_neg (by decide), if_neg (by decide)] at h
    simp only [aWhy, wTip] at hw
    rw [if_neg (by decide), if_neg (by decide), if_neg (by decide)] at hw
    split at hw
    · cases hw
    · split at hw
      · cases hw
      · split at hw
        · cases hw
        · refine ⟨fun q => absurd q (by decide), fun q => absurd q (by decide), fun q => absurd q (by decide), fun _ _ _ => M_wineAt _ (M_wineAt _ (M_pourTip hM R w h1 h2 (by assumption) (by omega) h))⟩
theorem M_doIf {t x y z : Nat} (hM : shM P K) (R : rM I hd so) (w : wf hd so) (ok : aOk hd t x y z) (h : ∀ I', rM I' hd (if aWhy hd so t x y z = 0 then aLive hd so t x y z else so) → fr93 I I' → FV I' J) : ckV G (d + 7) mX12_doIf [.ref 91, .int (nI t), .int (nI x), .int (nI y), .int (nI z)] I J P K n FV := by
  have hle := aWhy_le hd so t x y z
  refine bX12_doIf_0 hM _ _ _ _ (M_why hM R w ok ?_)
  by_cases q : aWhy hd so t x y z = 0
  · rw [if_pos q] at h
    exact br_t (by rw [q]; rfl) (M_live hM R w ok q h)
  · rw [if_neg q] at h
    exact br_f (nI_ne0 (by omega) (by omega)) (h I R (fr93_rf I))
/-- snapshots: c of them, the newest first -/
def psh {α : Type} (us : Nat → α) (a : α) : Nat → α := fun i => match i with
  | 0 => a
  | i + 1 => us i
def rU (I : sI) (c : Nat) (us : Nat → Nat → Nat) : Prop := I 91 27 = nI c ∧ c ≤ 8 ∧ ∀ i j, i < c → j < 863 → I 96 (863 * (c - 1 - i) + j) = nI (us i j)
def soM (I : sI) (so : Nat → Nat) : Prop := ∀ j, j < 863 → I 93 (815 + j) = nI (so j)
/-- but 96 and the count -/
def frU (I I' : sI) : Prop := ∀ a k, a ≠ 96 → ¬ (a = 91 ∧ k = 27) → I' a k = I a k
theorem M_snap52 {c : Nat} {us : Nat → Nat → Nat} (hM : shM P K) (S : soM I so) (hcn : I 91 27 = nI c) (hc : c < 8) (hu : ∀ i j, i < c → j < 863 → I 96 (863 * (c - 1 - i) + j) = nI (us i j)) (h : ∀ I', rU I' (c + 1) (psh us so) → frU I I' → FV I' J) : Ok G d mX12_snap 52 [some (.ref 91), some (.int 0)] [] I J P K n (kV P K n FV) := by
  have key := loopN 863 (fun t => ∀ I', (∀ j, j < t → I' 96 (863 * c + j) = nI (so j)) → (∀ a k, ¬ (a = 96 ∧ 863 * c ≤ k ∧ k < 863 * c + 863) → I' a k = I a k) → Ok G d mX12_snap 52 [some (.ref 91), some (.int (nI t))] [] I' J P K n (kV P K n FV)) ?_ ?_ 0 (by omega)
  · exact key I (fun j hj => by omega) (fun a k _ => rfl)
  · intro I' h1 h2
    refine bX12_snap_52 hM _ (br_t (nI_le (Nat.le_refl 863) (by omega)) ?_)
    rw [h2 91 27 (by omega), hcn, nI_1]
    refine h _ ⟨u2_s _ _ _ _, by omega, fun i j hi hj => ?_⟩ (fun a k ha hk => ?_)
    · rw [u2_a _ _ _ _ (by decide)]
      match i, hi with
      | 0, _ => rw [show c + 1 - 1 - 0 = c by omega]; exact h1 j hj
      | i + 1, hi =>
        have hlt : 863 * (c - 1 - i) + 863 ≤ 863 * c := by
          have : 863 * (c - 1 - i) + 863 = 863 * (c - 1 - i + 1) := by omega
          rw [this]
          exact Nat.mul_le_mul_left _ (by omega)
        rw [show c + 1 - 1 - (i + 1) = c - 1 - i by omega, h2 96 _ (by omega)]
        exact hu i j (by omega) hj
    · have : ¬ (a = 91 ∧ k = 27) := hk
      simp only [u2]
      rw [if_neg this]
      exact h2 a k (by omega)
  · intro t ht ih I' h1 h2
    refine bX12_snap_52 hM _ (br_f (nI_ge (b := 863) ht (by omega)) ?_)
    have e1 : (815 + nI t : Int32) = nI (815 + t) := by show nI 815 + nI t = _; rw [i_add]
    have e2 : 863 * I' 91 27 + nI t = nI (863 * c + t) := by rw [h2 91 27 (by omega), hcn]; show nI 863 * nI c + nI t = _; rw [i_mul, i_add]
    rw [e1, e2, nI_ck (by omega), nI_ck (by omega), nI_1]
    refine ⟨nI_inN (by omega) (by omega), nI_inN (by omega) (by omega), ?_⟩
    rw [h2 93 _ (by omega), S t ht]
    refine ih _ (fun j hj => ?_) (fun a k hk => ?_)
    · by_cases q : j = t
      · subst q; rw [u2_s]
      · rw [u2_k _ _ _ _ (by omega)]; exact h1 j (by omega)
    · simp only [u2]
      rw [if_neg (by omega)]
      exact h2 a k hk
theorem M_snap {c : Nat} {us : Nat → Nat → Nat} (hM : shM P K) (S : soM I so) (U : rU I c us) (h : ∀ I', rU I' (if c = 8 then 8 else c + 1) (psh us so) → frU I I' → FV I' J) : ckV G d mX12_snap [.ref 91] I J P K n FV := by
  obtain ⟨hcn, hc8, hu⟩ := U
  refine bX12_snap_0 hM ?_
  rw [hcn]
  by_cases q : c = 8
  · subst q
    rw [if_pos rfl] at h
    refine br_t rfl ?_
    have key := loopN 6041 (fun t => ∀ I', (∀ j, j < t → I' 96 j = I 96 (j + 863)) → (∀ a k, ¬ (a = 96 ∧ k < t) → I' a k = I a k) → Ok G d mX12_snap 11 [some (.ref 91), some (.int (nI t))] [] I' J P K n (kV P K n FV)) ?_ ?_ 0 (by omega)
    · exact key I (fun j hj => by omega) (fun a k _ => rfl)
    · intro I' h1 h2
      refine bX12_snap_11 hM _ (br_t (nI_le (Nat.le_refl 6041) (by omega)) ?_)
      rw [h2 91 27 (by omega), hcn]
      have e8 : nI 8 - 1 = nI 7 := by decide
      rw [e8]
      refine M_snap52 (c := 7) (us := us) hM (fun j hj => by rw [u2_a _ _ _ _ (by decide), h2 93 _ (by omega)]; exact S j hj) (u2_s _ _ _ _) (by decide) (fun i j hi hj => ?_) (fun I2 g1 g2 => h I2 g1 (fun a k ha hk => ?_))
      · rw [u2_a _ _ _ _ (by decide), h1 _ (by omega), show 863 * (7 - 1 - i) + j + 863 = 863 * (8 - 1 - i) + j by omega]
        exact hu i j (by omega) hj
      · rw [g2 a k ha hk]
        simp only [u2]
        rw [if_neg hk]
        exact h2 a k (by omega)
    · intro t ht ih I' h1 h2
      refine bX12_snap_11 hM _ (br_f (nI_ge (b := 6041) ht (by omega)) ?_)
      have e2 : nI t + 863 = nI (t + 863) := by show nI t + nI 863 = _; rw [i_add]
      rw [e2, nI_ck (by omega), nI_ck (by omega), nI_1]
      refine ⟨nI_inN (by omega) (by omega), nI_inN (by omega) (by omega), ?_⟩
      rw [h2 96 _ (by omega)]
      refine ih _ (fun j hj => ?_) (fun a k hk => ?_)
      · by_cases q : j = t
        · subst q; rw [u2_s]
        · rw [u2_k _ _ _ _ (by omega)]; exact h1 j (by omega)
      · simp only [u2]
        rw [if_neg (by omega)]
        exact h2 a k (by omega)
  · rw [if_neg q] at h
    exact br_f (fun e => q ((nI_eq (b := 8) (by omega) (by decide)).mp e)) (M_snap52 hM S hcn (by omega) hu h)
theorem M_layAside (hM : shM P K) (S : soM I so) (h : ∀ I', (∀ j, j < 863 → I' 97 j = nI (so j)) → (∀ a k, a ≠ 97 → I' a k = I a k) → FV I' J) : ckV G d mX12_layAside [.ref 91] I J P K n FV := by
  have key := loopN 863 (fun t => ∀ I', (∀ j, j < t → I' 97 j = nI (so j)) → (∀ a k, a ≠ 97 → I' a k = I a k) → Ok G d mX12_layAside 2 [some (.ref 91), some (.int (nI t))] [] I' J P K n (kV P K n FV)) ?_ ?_ 0 (by omega)
  · exact bX12_layAside_0 (key I (fun j hj => by omega) (fun a k _ => rfl))
  · intro I' h1 h2
    exact bX12_layAside_2 hM _ (br_t (nI_le (Nat.le_refl 863) (by omega)) (h I' h1 h2))
  · intro t ht ih I' h1 h2
    refine bX12_layAside_2 hM _ (br_f (nI_ge (b := 863) ht (by omega)) ?_)
    have e1 : (815 + nI t : Int32) = nI (815 + t) := by show nI 815 + nI t = _; rw [i_add]
    rw [e1, nI_ck (by omega), nI_ck (by omega), nI_1, h2 93 _ (by decide), S t ht]
    refine ⟨nI_inN (by omega) (by omega), nI_inN (by omega) (by omega), ih _ (fun j hj => ?_) (fun a k hk => ?_)⟩
    · by_cases q : j = t
      · subst q; rw [u2_s]
      · rw [u2_k _ _ _ _ q]; exact h1 j (by omega)
    · rw [u2_a _ _ _ _ hk]; exact h2 a k hk
/-- but the part of the row that is so -/
def frS (I I' : sI) : Prop := ∀ a k, ¬ (a = 93 ∧ 815 ≤ k ∧ k < 1678) → I' a k = I a k
theorem M_takeBack {sa : Nat → Nat} (hM : shM P K) (S : ∀ j, j < 863 → I 97 j = nI (sa j)) (h : ∀ I', soM I' sa → frS I I' → FV I' J) : ckV G d mX12_takeBack [.ref 91] I J P K n FV := by
  have key := loopN 863 (fun t => ∀ I', (∀ j, j < t → I' 93 (815 + j) = nI (sa j)) → frS I I' → Ok G d mX12_takeBack 2 [some (.ref 91), some (.int (nI t))] [] I' J P K n (kV P K n FV)) ?_ ?_ 0 (by omega)
  · exact bX12_takeBack_0 (key I (fun j hj => by omega) (fun a k _ => rfl))
  · intro I' h1 h2
    exact bX12_takeBack_2 hM _ (br_t (nI_le (Nat.le_refl 863) (by omega)) (h I' h1 h2))
  · intro t ht ih I' h1 h2
    refine bX12_takeBack_2 hM _ (br_f (nI_ge (b := 863) ht (by omega)) ?_)
    have e1 : (815 + nI t : Int32) = nI (815 + t) := by show nI 815 + nI t = _; rw [i_add]
    rw [e1, nI_ck (by omega), nI_ck (by omega), nI_1, h2 97 _ (by omega), S t ht]
    refine ⟨nI_inN (by omega) (by omega), nI_inN (by omega) (by omega), ih _ (fun j hj => ?_) (fun a k hk => ?_)⟩
    · by_cases q : j = t
      · subst q; rw [u2_s]
      · rw [u2_k _ _ _ _ (by omega)]; exact h1 j (by omega)
    · simp only [u2]
      rw [if_neg (by omega)]; exact h2 a k hk
end ModWhy
