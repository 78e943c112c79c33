/-! the reference: which, ask -/
/-- what the first m pairs of the tape say of a vintage -/
def pr (tp : Nat → Nat) (m v : Nat) : Nat := sm (fun i => if tp (2 * i) = v then tp (2 * i + 1) else 0) m
def allB (p : Nat → Bool) : Nat → Bool
  | 0 => true
  | k + 1 => allB p k && p k
theorem allB_t {p : Nat → Bool} {m : Nat} : allB p m = true ↔ ∀ k, k < m → p k = true := by
  induction m with
  | zero => exact ⟨fun _ k hk => by omega, fun _ => rfl⟩
  | succ m ih =>
    simp only [allB, Bool.and_eq_true, ih]
    constructor
    · intro h k hk
      by_cases q : k = m
      · rw [q]; exact h.2
      · exact h.1 k (by omega)
    · intro h
      exact ⟨fun k hk => h k (by omega), h m (by omega)⟩
def eqB (so tw : Nat → Nat) (x k v : Nat) : Bool := decide (shr (wn so k) 40 x v = tw v)
def sucB (so tw : Nat → Nat) (x k : Nat) : Bool := decide (x ≤ ltr so k) && allB (eqB so tw x k) 40
def cnt (so : Nat → Nat) (b : Nat → Bool) (v k m : Nat) : Nat := sm (fun j => if b j && decide (wn so j v = wn so k v) then 1 else 0) m
def mxN (f : Nat → Nat) : Nat → Nat
  | 0 => 0
  | k + 1 => if f k ≤ mxN f k then mxN f k else f k
def lft (so : Nat → Nat) (b : Nat → Bool) (m v : Nat) : Nat := mxN (fun k => if b k then cnt so b v k m else 0) m
def amn (f : Nat → Nat) : Nat → Nat
  | 0 => 0
  | v + 1 => if f v < f (amn f v) then v else amn f v
theorem amn_lt (f : Nat → Nat) : ∀ m, 0 < m → amn f m < m
  | 0, h => by omega
  | 1, _ => by simp [amn]
  | m + 2, _ => by
    have := amn_lt f (m + 1) (by omega)
    show (if f (m + 1) < f (amn f (m + 1)) then m + 1 else amn f (m + 1)) < m + 2
    split <;> omega
theorem mxN_le {f : Nat → Nat} {c : Nat} {m : Nat} (h : ∀ k, k < m → f k ≤ c) : mxN f m ≤ c := by
  induction m with
  | zero => exact Nat.zero_le _
  | succ m ih =>
    simp only [mxN]
    split
    · exact ih (fun k hk => h k (by omega))
    · exact h m (by omega)
theorem cnt_le (so : Nat → Nat) (b : Nat → Bool) (v k m : Nat) : cnt so b v k m ≤ m := by
  have := sm_bound (f := fun j => if b j && decide (wn so j v = wn so k v) then 1 else 0) (n := m) (c := 1) (fun j _ => by split <;> omega)
  unfold cnt
  omega
theorem lft_le (so : Nat → Nat) (b : Nat → Bool) (m v : Nat) : lft so b m v ≤ m := mxN_le (fun k _ => by
  split
  · exact cnt_le _ _ _ _ _
  · omega)
def whB (tl : Nat) (tp : Nat → Nat) : Bool := decide (tl % 2 = 0) && decide (1 ≤ tl / 2 ∧ tl / 2 ≤ 20) && allB (fun i => decide (tp (2 * i) < 40)) (tl / 2) && decide (0 < sm (pr tp (tl / 2)) 40)
def whQ (so : Nat → Nat) (tl : Nat) (tp : Nat → Nat) : Nat → Bool := sucB so (pr tp (tl / 2)) (sm (pr tp (tl / 2)) 40)
def vWhich (hd so : Nat → Nat) (tl : Nat) (tp : Nat → Nat) : Int32 := if whB tl tp then bs (whQ so tl tp) (hd 1) else -1
def kWhich (hd so : Nat → Nat) (tl : Nat) (tp : Nat → Nat) (ask : Int32) : Int32 := if whB tl tp && decide (bs (whQ so tl tp) (hd 1) ≠ 0) then nI (amn (lft so (whQ so tl tp) (hd 1)) 40) else ask
def rT (I : sI) (tl : Nat) (tp : Nat → Nat) : Prop := I 91 2 = nI tl ∧ tl ≤ 940 ∧ ∀ j, j < tl → I 92 j = nI (tp j) ∧ tp j ≤ 255
section ModWhich
variable {G : gG} {d : Nat} {I : sI} {J : sJ} {P : sP} {K : sK} {n : Nat} {F : Int32 → sI → sJ → Prop} {FV : sI → sJ → Prop} {hd so : Nat → Nat}
theorem rM_fr {I I' : sI} (R : rM I hd so) (h : ∀ k, I' 93 k = I 93 k) : rM I' hd so := ⟨fun k hk => (h k).trans (R.1 k hk), fun j hj => (h _).trans (R.2 j hj)⟩
theorem M_isSuch {k x : Nat} {tw : Nat → Nat} (hM : shM P K) (R : rM I hd so) (w : wf hd so) (hk : k < hd 1) (hx : x < 1000000) (ht : ∀ v, v < 40 → I 111 v = nI (tw v)) (hb : ∀ v, v < 40 → tw v < 1000000) (h : ∀ I', chg I I' d3 → F (b01 (sucB so tw x k)) I' J) : ckI G (d + 2) mX12_isSuch [.ref 91, .int (nI k), .int (nI x)] I J P K n F := by
  have hc := wf_casks w
  have hl := wf_ltr w hk
  unfold sucB at h
  refine bX12_isSuch_0 hM _ _ (M_litresOf hM R (by omega) ?_)
  by_cases q : x ≤ ltr so k
  · rw [decide_eq_true q, Bool.true_and] at h
    refine br_t (nI_le q (by omega)) (M_wineAt k (M_layPortion (f := wn so k) hM (shM_K93 hM) (by omega) (by omega) (by unfold d3; omega) (fun v hv => rM_wn R (by omega) hv) q (Nat.le_trans hl (by omega)) (fun I1 g1 g2 => ?_)))
    have hs : ∀ v, v < 40 → shr (wn so k) 40 x v ≤ 400 := fun v hv => Nat.le_trans ((shr_ok (own := wn so k) (m := 40) q).1 v hv) (wf_wn w hk hv)
    have ht1 : ∀ v, v < 40 → I1 111 v = nI (tw v) := fun v hv => (g2 111 v (by unfold d3; omega)).trans (ht v hv)
    have key := loopN 40 (fun j => Ok G (d + 2) mX12_isSuch 30 [some (.ref 91), none, none, some (.int (b01 (allB (eqB so tw x k) j))), some (.int (nI j))] [] I1 J P K n (kI P K n F)) ?_ ?_ 0 (by omega)
    · exact key
    · exact bX12_isSuch_30 hM _ _ (br_t (by decide) ⟨b01_or _, h I1 g2⟩)
    · intro j hj ih
      simp only [allB] at ih
      refine bX12_isSuch_30 hM _ _ (br_f (nI_ge (b := 40) hj (by decide)) (b01n (fun e => ?_) (fun e => ?_)))
      · rw [nI_1]
        rw [e, Bool.false_and] at ih
        exact ih
      · rw [nI_ck (by omega), g1 j hj, ht1 j hj, nI_1]
        rw [e, Bool.true_and] at ih
        refine ⟨nI_inN hj (by decide), nI_inN hj (by decide), ?_⟩
        have hsj := hs j hj
        have hbj := hb j hj
        by_cases q2 : shr (wn so k) 40 x j = tw j
        · rw [show eqB so tw x k j = true from decide_eq_true q2] at ih
          exact br_t (by rw [q2]) ih
        · rw [show eqB so tw x k j = false from decide_eq_false q2] at ih
          exact br_f (fun g => q2 ((nI_eq (by omega) (by omega)).mp g)) ih
  · rw [decide_eq_false q, Bool.false_and] at h
    exact br_f (nI_ge (by omega) (by omega)) (h I (fun _ _ _ => rfl))
theorem M_leftBy {b : Nat → Bool} {v : Nat} (hM : shM P K) (R : rM I hd so) (w : wf hd so) (hv : v < 40) (h : F (nI (lft so b (hd 1) v)) I J) : ckI G (d + 1) mX12_leftBy [.ref 91, .int (bs b (hd 1)), .int (nI v)] I J P K n F := by
  have hc := wf_casks w
  have key := loopN (hd 1) (fun k => Ok G (d + 1) mX12_leftBy 5 [some (.ref 91), some (.int (bs b (hd 1))), some (.int (nI v)), some (.int (nI (mxN (fun k => if b k then cnt so b v k (hd 1) else 0) k))), some (.int (nI k)), none, none] [] I J P K n (kI P K n F)) ?_ ?_ 0 (by omega)
  · exact bX12_leftBy_0 _ _ key
  · refine bX12_leftBy_5 hM _ _ _ _ ?_
    rw [R.1 1 (by decide)]
    exact br_t (nI_le (Nat.le_refl _) (by omega)) h
  · intro k hk ih
    have hm : mxN (fun k => if b k then cnt so b v k (hd 1) else 0) k ≤ hd 1 := mxN_le (fun j _ => by
      split
      · exact cnt_le _ _ _ _ _
      · omega)
    refine bX12_leftBy_5 hM _ _ _ _ ?_
    rw [R.1 1 (by decide)]
    refine br_f (nI_ge hk (by omega)) (M_has _ (by omega) ?_)
    rw [bit_bs b (by omega) (by omega), decide_eq_true hk, Bool.true_and, nI_1]
    simp only [mxN] at ih
    refine b01n (fun e => ?_) (fun e => ?_)
    · rw [e] at ih
      rw [show (if false = true then cnt so b v k (hd 1) else 0) = 0 from rfl, if_pos (Nat.zero_le _)] at ih
      exact ih
    · rw [e, if_pos rfl] at ih
      obtain ⟨mm, hmm⟩ : ∃ mm, mxN (fun k => if b k then cnt so b v k (hd 1) else 0) k = mm := ⟨_, rfl⟩
      rw [hmm] at ih hm ⊢
      have key2 := loopN (hd 1) (fun j => Ok G (d + 1) mX12_leftBy 34 [some (.ref 91), some (.int (bs b (hd 1))), some (.int (nI v)), some (.int (nI mm)), some (.int (nI k)), some (.int (nI (cnt so b v k j))), some (.int (nI j))] [] I J P K n (kI P K n F)) ?_ ?_ 0 (by omega)
      · exact key2
      · have hcn := cnt_le so b v k (hd 1)
        refine bX12_leftBy_34 hM _ _ _ _ _ _ ?_
        rw [R.1 1 (by decide), nI_1 k]
        refine br_t (nI_le (Nat.le_refl _) (by omega)) ?_
        by_cases q : cnt so b v k (hd 1) ≤ mm
        · rw [if_pos q] at ih
          exact br_t (nI_le q (by omega)) ih
        · rw [if_neg q] at ih
          exact br_f (nI_ge (by omega) (by omega)) ih
      · intro j hj ih2
        have ej : cnt so b v k (j + 1) = cnt so b v k j + (if b j && decide (wn so j v = wn so k v) then 1 else 0) := rfl
        rw [ej] at ih2
        refine bX12_leftBy_34 hM _ _ _ _ _ _ ?_
        rw [R.1 1 (by decide), nI_1 j]
        refine br_f (nI_ge hj (by omega)) (M_has _ (by omega) ?_)
        rw [bit_bs b (by omega) (by omega), decide_eq_true hj, Bool.true_and]
        refine b01n (fun e2 => ?_) (fun e2 => M_wineAt j ?_)
        · rw [e2, Bool.false_and, if_neg (by simp), Nat.add_zero] at ih2
          exact ih2
        · rw [e2, Bool.true_and] at ih2
          rw [i_add]
          refine ⟨nI_inN (by omega) (by omega), M_wineAt k ?_⟩
          rw [i_add, nI_ck (by omega), nI_ck (by omega), rM_wn R (by omega) hv, rM_wn R (by omega) hv]
          have w1 := wf_wn w hj hv
          have w2 := wf_wn w hk hv
          refine ⟨nI_inN (by omega) (by omega), ?_⟩
          by_cases q : wn so j v = wn so k v
          · rw [decide_eq_true q, if_pos rfl] at ih2
            refine br_t (by rw [q]) ?_
            rw [nI_1]; exact ih2
          · rw [decide_eq_false q, if_neg (by simp), Nat.add_zero] at ih2
            exact br_f (fun g => q ((nI_eq (by omega) (by omega)).mp g)) ih2
theorem M_layAsking {b : Nat → Bool} (hM : shM P K) (R : rM I hd so) (w : wf hd so) (h : FV (u2 I 91 40 (nI (amn (lft so b (hd 1)) 40))) J) : ckV G (d + 2) mX12_layAsking [.ref 91, .int (bs b (hd 1))] I J P K n FV := by
  have hc := wf_casks w
  have hle := lft_le so b (hd 1)
  refine bX12_layAsking_0 hM _ (M_leftBy (v := 0) hM (rM_91 R 40 0) w (by decide) ?_)
  have key := loopN 39 (fun t => Ok G (d + 2) mX12_layAsking 14 [some (.ref 91), some (.int (bs b (hd 1))), some (.int (nI (lft so b (hd 1) (amn (lft so b (hd 1)) (t + 1))))), some (.int (nI (t + 1))), none] [] (u2 I 91 40 (nI (amn (lft so b (hd 1)) (t + 1)))) J P K n (kV P K n FV)) ?_ ?_ 0 (by omega)
  · have e : amn (lft so b (hd 1)) (0 + 1) = 0 := by simp [amn]
    rw [e] at key
    exact key
  · exact bX12_layAsking_14 hM _ _ _ (br_t (by decide) h)
  · intro t ht ih
    have h1 := hle (t + 1)
    have h2 := hle (amn (lft so b (hd 1)) (t + 1))
    refine bX12_layAsking_14 hM _ _ _ (br_f (nI_ge (b := 40) (by omega) (by decide)) (M_leftBy hM (rM_91 R 40 _) w (by omega) ?_))
    rw [nI_1]
    rw [show amn (lft so b (hd 1)) (t + 1 + 1) = if lft so b (hd 1) (t + 1) < lft so b (hd 1) (amn (lft so b (hd 1)) (t + 1)) then t + 1 else amn (lft so b (hd 1)) (t + 1) from rfl] at ih
    by_cases q : lft so b (hd 1) (t + 1) < lft so b (hd 1) (amn (lft so b (hd 1)) (t + 1))
    · rw [if_pos q] at ih
      refine br_t (nI_lt q (by omega)) ?_
      have e : u2 (u2 I 91 40 (nI (amn (lft so b (hd 1)) (t + 1)))) 91 40 (nI (t + 1)) = u2 I 91 40 (nI (t + 1)) := by
        funext a k
        simp only [u2]
        split <;> rfl
      rw [e]; exact ih
    · rw [if_neg q] at ih
      exact br_f (nI_nlt (by omega) (by omega)) ih
theorem pr_le {tp : Nat → Nat} {m : Nat} (h : ∀ j, j < 2 * m → tp j ≤ 255) (v : Nat) : pr tp m v ≤ m * 255 := sm_bound (fun i hi => by
  split
  · exact h _ (by omega)
  · omega)
/-- what which may change -/
def frW (I I' : sI) : Prop := ∀ c k, ¬ (c = 91 ∧ (k = 2 ∨ k = 40)) → ¬ d3 c → c ≠ 111 → I' c k = I c k
theorem M_which {tl : Nat} {tp : Nat → Nat} {ask : Int32} (hM : shM P K) (R : rM I hd so) (w : wf hd so) (T : rT I tl tp) (A : I 91 40 = ask) (h : ∀ I', I' 91 40 = kWhich hd so tl tp ask → I' 91 2 = nI 0 → frW (u2 I 91 0 0) I' → F (vWhich hd so tl tp) I' J) : ckI G (d + 3) mX12_which [.ref 91] I J P K n F := by
  obtain ⟨T1, T2, T3⟩ := T
  have hc := wf_casks w
  have e2 : u2 I 91 0 0 91 2 = nI tl := by rw [u2_k _ _ _ _ (by decide), T1]
  have e40 : ∀ x : Int32, u2 (u2 I 91 0 0) 91 2 x 91 40 = ask := fun x => by rw [u2_k _ _ _ _ (by decide), u2_k _ _ _ _ (by decide), A]
  have f0 : frW (u2 I 91 0 0) (u2 (u2 I 91 0 0) 91 2 0) := fun c k a1 _ _ => by
    simp only [u2]
    rw [if_neg (by omega)]
  unfold vWhich kWhich at h
  refine bX12_which_0 hM (bX12_take_0 hM ?_)
  rw [e2]
  have er : nI tl - nI tl / 2 * 2 = nI (tl % 2) := i_rem (b := 2) (by omega) (by decide) (by decide)
  have ed : nI tl / 2 = nI (tl / 2) := i_div (b := 2) (by omega) (by decide) (by decide)
  rw [er, ed]
  have hm2 : tl % 2 < 2 := Nat.mod_lt _ (by decide)
  have no : whB tl tp = false → ∀ I', I' 91 40 = ask → I' 91 2 = nI 0 → frW (u2 I 91 0 0) I' → F (-1) I' J := by
    intro e I' g1 g2 g3
    simp only [e, Bool.false_and, Bool.false_eq_true, if_false] at h
    exact h I' g1 g2 g3
  rcases Decidable.em (¬ tl % 2 = 0) with q1 | q1
  · have e : whB tl tp = false := by simp [whB, q1]
    exact br_f (nI_ne0 (by omega) (by omega)) (no e _ (e40 _) (u2_s _ _ _ _) f0)
  have q1 : tl % 2 = 0 := Decidable.not_not.mp q1
  refine br_t (by rw [q1]; rfl) (M_isIn _ _ _ (b01n (fun e => ?_) (fun e => ?_)))
  · have e : whB tl tp = false := by
      have : ¬ (1 ≤ tl / 2 ∧ tl / 2 ≤ 20) := fun g => by
        have e9 : isB (nI (tl / 2)) 1 20 = true := isB_nI (a := 1) (b := 20) g.1 g.2 (by decide)
        rw [e9] at e; cases e
      simp only [whB, decide_eq_false this, Bool.and_false, Bool.false_and]
    exact no e _ (e40 _) (u2_s _ _ _ _) f0
  obtain ⟨m, hm1, hm3, em⟩ := isB_t (a := 1) (b := 20) (by decide) (by decide) e
  have em2 : tl / 2 = m := (nI_eq (by omega) (by omega)).mp em
  have htl : tl = 2 * m := by omega
  refine M_clear (a := 111) (q := 0) (shM_K111 hM) (by decide) (by decide) (fun I1 z1 z2 => ?_)
  have z2' : ∀ c k, c ≠ 111 → I1 c k = u2 (u2 I 91 0 0) 91 2 0 c k := fun c k g => z2 c k (fun e => g e.1)
  have tb : ∀ j, j < 2 * m → tp j ≤ 255 := fun j hj => (T3 j (by omega)).2
  have key := loopN m (fun i => ∀ I', (∀ v, v < 40 → I' 111 v = nI (pr tp i v)) → (∀ c k, c ≠ 111 → I' c k = u2 (u2 I 91 0 0) 91 2 0 c k) → (∀ j, j < i → tp (2 * j) < 40) → Ok G (d + 3) mX12_which 41 [some (.ref 91), some (.int (nI tl)), some (.int (nI (2 * i))), none, none] [] I' J P K n (kI P K n F)) ?_ ?_ 0 (by omega)
  · exact key I1 (fun v hv => by have := z1 v hv; rw [Nat.zero_add] at this; exact this) z2' (fun j hj => by omega)
  · intro I' p1 p2 p3
    have hsum : sm (pr tp m) 40 ≤ 40 * (20 * 255) := sm_bound (fun v _ => Nat.le_trans (pr_le tb v) (Nat.mul_le_mul_right _ hm3))
    have R' : rM I' hd so := rM_fr R (fun k => by rw [p2 93 k (by decide), u2_a _ _ _ _ (by decide), u2_a _ _ _ _ (by decide)])
    have f' : frW (u2 I 91 0 0) I' := fun c k a1 a2 a3 => (p2 c k a3).trans (f0 c k a1 a2 a3)
    have a40 : I' 91 40 = ask := (p2 91 40 (by decide)).trans (e40 _)
    have a2 : I' 91 2 = nI 0 := (p2 91 2 (by decide)).trans (u2_s _ _ _ _)
    refine bX12_which_41 hM _ _ (br_t (nI_le (by omega) (by omega)) (M_litresIn (q := 0) (shM_K111 hM) (by decide) (by decide) (fun v hv => by rw [Nat.zero_add]; exact p1 v hv) ?_))
    by_cases q2 : sm (pr tp m) 40 = 0
    · have e : whB tl tp = false := by simp [whB, em2, q2]
      exact br_t (by rw [q2]; rfl) (no e I' a40 a2 f')
    have eB : whB tl tp = true := by
      simp only [whB, em2, Bool.and_eq_true, decide_eq_true_eq]
      exact ⟨⟨⟨q1, hm1, hm3⟩, allB_t.mpr (fun j hj => decide_eq_true (p3 j hj))⟩, by omega⟩
    simp only [eB, Bool.true_and, if_true] at h
    refine br_f (nI_ne0 (by omega) (by omega)) ?_
    have eQ : whQ so tl tp = sucB so (pr tp m) (sm (pr tp m) 40) := by unfold whQ; rw [em2]
    rw [eQ] at h
    have key2 := loopN (hd 1) (fun k => ∀ I2, (∀ c k, ¬ d3 c → I2 c k = I' c k) → Ok G (d + 3) mX12_which 109 [some (.ref 91), none, some (.int (nI (sm (pr tp m) 40))), some (.int (bs (sucB so (pr tp m) (sm (pr tp m) 40)) k)), some (.int (nI k))] [] I2 J P K n (kI P K n F)) ?_ ?_ 0 (by omega)
    · exact key2 I' (fun _ _ _ => rfl)
    · intro I2 g
      have R2 : rM I2 hd so := rM_fr R' (fun k => g 93 k (by unfold d3; omega))
      have f2 : frW (u2 I 91 0 0) I2 := fun c k a1 a2 a3 => (g c k a2).trans (f' c k a1 a2 a3)
      refine bX12_which_109 hM _ _ _ ?_
      rw [R2.1 1 (by decide)]
      refine br_t (nI_le (Nat.le_refl _) (by omega)) ?_
      by_cases q3 : bs (sucB so (pr tp m) (sm (pr tp m) 40)) (hd 1) = 0
      · rw [q3] at h ⊢
        simp only [ne_eq, not_true, decide_false, Bool.false_eq_true, if_false] at h
        exact br_t rfl (h I2 ((g 91 40 (by unfold d3; omega)).trans a40) ((g 91 2 (by unfold d3; omega)).trans a2) f2)
      · simp only [ne_eq, q3, not_false_eq_true, decide_true, if_true] at h
        refine br_f q3 (M_layAsking hM R2 w (h _ (u2_s _ _ _ _) ?_ (fun c k b1 b2 b3 => ?_)))
        · rw [u2_k _ _ _ _ (by decide)]; exact (g 91 2 (by unfold d3; omega)).trans a2
        · rw [← f2 c k b1 b2 b3]
          simp only [u2]
          rw [if_neg (by omega)]
    · intro k hk ih I2 g
      have R2 : rM I2 hd so := rM_fr R' (fun k => g 93 k (by unfold d3; omega))
      refine bX12_which_109 hM _ _ _ ?_
      rw [R2.1 1 (by decide), nI_1 k]
      refine br_f (nI_ge hk (by omega)) (M_isSuch (tw := pr tp m) hM R2 w hk (by omega) (fun v hv => (g 111 v (by unfold d3; omega)).trans (p1 v hv)) (fun v hv => by
        have := pr_le tb v
        have : m * 255 ≤ 20 * 255 := Nat.mul_le_mul_right _ hm3
        omega) (fun I3 g3 => ?_))
      simp only [bs] at ih
      have g4 : ∀ c k, ¬ d3 c → I3 c k = I' c k := fun c k a => (g3 c k a).trans (g c k a)
      refine b01n (fun e => ?_) (fun e => ?_)
      · rw [e, if_neg (by simp)] at ih
        exact ih I3 g4
      · rw [e, if_pos rfl] at ih
        exact ih I3 g4
  · intro i hi ih I' p1 p2 p3
    have hT := T3 (2 * i) (by omega)
    have hT1 := T3 (2 * i + 1) (by omega)
    have a40 : I' 91 40 = ask := (p2 91 40 (by decide)).trans (e40 _)
    have a2 : I' 91 2 = nI 0 := (p2 91 2 (by decide)).trans (u2_s _ _ _ _)
    have f' : frW (u2 I 91 0 0) I' := fun c k a1 a2 a3 => (p2 c k a3).trans (f0 c k a1 a2 a3)
    have t0 : I' 92 (2 * i) = nI (tp (2 * i)) := by rw [p2 92 _ (by decide), u2_a _ _ _ _ (by decide), u2_a _ _ _ _ (by decide)]; exact hT.1
    have t1 : I' 92 (2 * i + 1) = nI (tp (2 * i + 1)) := by rw [p2 92 _ (by decide), u2_a _ _ _ _ (by decide), u2_a _ _ _ _ (by decide)]; exact hT1.1
    refine bX12_which_41 hM _ _ (br_f (nI_ge (by omega) (by omega)) ⟨nI_inN (by omega) (by omega), ?_⟩)
    rw [nI_ck (by omega), t0, nI_1, nI_ck (by omega)]
    refine M_isVintage _ (b01n (fun e => ?_) (fun e => ?_))
    · have e3 : whB tl tp = false := by
        have : allB (fun i => decide (tp (2 * i) < 40)) (tl / 2) = false := by
          cases g0 : allB (fun i => decide (tp (2 * i) < 40)) (tl / 2)
          · rfl
          · have g1 := allB_t.mp g0 i (by omega)
            rw [inB_nI (of_decide_eq_true g1) (by decide)] at e
            cases e
        simp only [whB, this, Bool.and_false, Bool.false_and]
      exact no e3 I' a40 a2 f'
    · obtain ⟨u, hu, eu⟩ := inB_t e
      have eu2 : tp (2 * i) = u := (nI_eq (by omega) (by omega)).mp eu
      rw [t0, t1, eu2, nI_ck (by omega), p1 u hu, i_add]
      have e4 : nI (2 * i) + 2 = nI (2 * (i + 1)) := by show nI (2 * i) + nI 2 = _; rw [i_add]; rfl
      rw [e4]
      refine ⟨nI_inN (by omega) (by omega), nI_inN hu (by decide), nI_inN (by omega) (by omega), nI_inN hu (by decide), ?_⟩
      refine ih _ (fun v hv => ?_) (fun c k g => (u2_a _ _ _ _ g).trans (p2 c k g)) (fun j hj => ?_)
      · have ep : pr tp (i + 1) v = pr tp i v + (if tp (2 * i) = v then tp (2 * i + 1) else 0) := rfl
        rw [ep, eu2]
        by_cases q3 : v = u
        · subst q3; rw [u2_s, if_pos rfl]
        · rw [u2_k _ _ _ _ q3, if_neg (fun g => q3 g.symm), Nat.add_zero]; exact p1 v hv
      · by_cases q3 : j = i
        · rw [q3, eu2]; exact hu
        · exact p3 j (by omega)
end ModWhich
