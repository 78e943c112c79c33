/-! the reference: store -/
def fnd (p : Nat → Bool) : Nat → Nat → Nat
  | 0, t => t
  | m + 1, t => if p t then t else fnd p m (t + 1)
theorem fnd_ok (p : Nat → Bool) : ∀ m t, t ≤ fnd p m t ∧ fnd p m t ≤ t + m ∧ (∀ s, t ≤ s → s < fnd p m t → p s = false) ∧ (fnd p m t < t + m → p (fnd p m t) = true)
  | 0, t => ⟨Nat.le_refl _, Nat.le_refl _, fun s h1 h2 => by simp only [fnd] at h2; omega, fun h => by simp only [fnd] at h; omega⟩
  | m + 1, t => by
    simp only [fnd]
    cases e : p t
    · have ih := fnd_ok p m (t + 1)
      rw [if_neg (by simp)]
      refine ⟨by omega, by omega, fun s h1 h2 => ?_, fun h => ih.2.2.2 (by omega)⟩
      by_cases q : s = t
      · rw [q]; exact e
      · exact ih.2.2.1 s (by omega) h2
    · rw [if_pos rfl]
      exact ⟨Nat.le_refl _, by omega, fun s h1 h2 => by omega, fun _ => e⟩
def lbs (f : Nat → Nat) : Nat → Nat → Nat → Int32 → Int32
  | 0, _, _, x => x
  | k + 1, left, needs, x => if left = 0 then x else if mst f k left < needs then lbs f k (left - 1) (needs - f k) (x ||| (1 <<< (nI k &&& 31))) else lbs f k left needs x
theorem lbs_0 (f : Nat → Nat) (k needs : Nat) (x : Int32) : lbs f k 0 needs x = x := by
  cases k <;> simp [lbs]
def few (f : Nat → Nat) (c x : Nat) : Nat := fnd (fun t => decide (x ≤ mst f c t)) c 1
def vStore (hd so : Nat → Nat) (x a : Int32) : Int32 := if isB x 1 999 && inB a 40 && decide (few (odl so (cl a)) (hd 1) (cl x) ≤ hd 1) then nI (few (odl so (cl a)) (hd 1) (cl x)) else -1
def kStore (hd so : Nat → Nat) (x a old : Int32) : Int32 := if isB x 1 999 && inB a 40 && decide (few (odl so (cl a)) (hd 1) (cl x) ≤ hd 1) then lbs (odl so (cl a)) (hd 1) (few (odl so (cl a)) (hd 1) (cl x)) (cl x) 0 else old
/-- what has been taken, of n litres in w casks of c, from k on -/
def lbI (f : Nat → Nat) (c x w k left needs : Nat) : Prop := ∃ T : Nat → Bool, (∀ j, j < k → T j = false) ∧ szB T c + left = w ∧ suB T f c + needs = x
theorem lb_small {f : Nat → Nat} {c x w k left needs : Nat} (hmin : ∀ s, s < w → mst f c s < x) (h : lbI f c x w k left needs) (hk : k ≤ c) (hl : k < left) : sm f k < needs := by
  obtain ⟨T, h1, h2, h3⟩ := h
  have e1 : szB (fun j => T j || decide (j < k)) c = szB T c + k := by
    have : szB (fun j => T j || decide (j < k)) c = sm (fun j => (if T j then 1 else 0) + (if j < k then 1 else 0)) c := sm_congr (fun j _ => by
      by_cases q : j < k
      · simp [h1 j q, q]
      · simp [q])
    rw [this, sm_add]
    congr 1
    have e : c = k + (c - k) := by omega
    rw [e, sm_split, show sm (fun j => if j < k then 1 else 0) k = sm (fun _ => 1) k from sm_congr (fun j hj => by simp [hj]), sm_const, show sm (fun j => if k + j < k then 1 else 0) (c - k) = 0 from sm_eq0.mpr (fun j _ => by rw [if_neg (by omega)])]
    omega
  have e2 : suB (fun j => T j || decide (j < k)) f c = suB T f c + sm f k := by
    have : suB (fun j => T j || decide (j < k)) f c = sm (fun j => (if T j then f j else 0) + (if j < k then f j else 0)) c := sm_congr (fun j _ => by
      by_cases q : j < k
      · simp [h1 j q, q]
      · simp [q])
    rw [this, sm_add]
    congr 1
    have e : c = k + (c - k) := by omega
    rw [e, sm_split, show sm (fun j => if j < k then f j else 0) k = sm f k from sm_congr (fun j hj => by simp [hj]), show sm (fun j => if k + j < k then f (k + j) else 0) (c - k) = 0 from sm_eq0.mpr (fun j _ => by rw [if_neg (by omega)])]
    omega
  have h4 := mst_best (f := f) (m := c) (many := szB T c + k) (S := fun j => T j || decide (j < k)) (by omega)
  have h5 := hmin (szB T c + k) (by omega)
  omega
theorem lb_take {f : Nat → Nat} {c x w k left needs : Nat} (hmin : ∀ s, s < w → mst f c s < x) (h : lbI f c x w (k + 1) left needs) (hk : k < c) (hl : 1 < left) : f k < needs ∧ lbI f c x w k (left - 1) (needs - f k) := by
  obtain ⟨T, h1, h2, h3⟩ := h
  have a1 := szB_rm (S := fun j => T j || decide (j = k)) hk (by simp)
  have a2 := suB_rm (S := fun j => T j || decide (j = k)) (g := f) hk (by simp)
  have b1 : szB (rmB (fun j => T j || decide (j = k)) k) c = szB T c := sm_congr (fun j _ => by
    unfold rmB
    by_cases q : j = k
    · subst q; simp [h1 j (by omega)]
    · simp [q])
  have b2 : suB (rmB (fun j => T j || decide (j = k)) k) f c = suB T f c := sm_congr (fun j _ => by
    unfold rmB
    by_cases q : j = k
    · subst q; simp [h1 j (by omega)]
    · simp [q])
  have h4 := mst_best (f := f) (m := c) (many := szB T c + 1) (S := fun j => T j || decide (j = k)) (by omega)
  have h5 := hmin (szB T c + 1) (by omega)
  refine ⟨by omega, fun j => T j || decide (j = k), fun j hj => ?_, by omega, by omega⟩
  simp [h1 j (by omega)]
  omega
theorem lb_skip {f : Nat → Nat} {c x w k left needs : Nat} (h : lbI f c x w (k + 1) left needs) : lbI f c x w k left needs := by
  obtain ⟨T, h1, h2, h3⟩ := h
  exact ⟨T, fun j hj => h1 j (by omega), h2, h3⟩
section ModStore
variable {G : gG} {d : Nat} {I : sI} {J : sJ} {P : sP} {K : sK} {n : Nat} {F : Int32 → sI → sJ → Prop} {FV : sI → sJ → Prop} {hd so : Nat → Nat}
theorem odl_le (w : wf hd so) {a k : Nat} (hk : k < hd 1) : odl so a k ≤ 400 := Nat.le_trans (sm_le (f := fun v => if v + a ≤ so 0 then wn so k v else 0) (g := wn so k) (fun v _ => by split <;> omega)) (wf_ltr w hk)
theorem mst_odl (w : wf hd so) {a m many : Nat} (hm : m ≤ hd 1) : mst (odl so a) m many ≤ 8000 := by
  have h1 := mst_le (f := odl so a) (m := m) (many := many)
  have h2 : sm (odl so a) m ≤ m * 400 := sm_bound (fun k hk => odl_le w (by omega))
  have h3 := wf_casks w
  omega
theorem M_store83 {x a w0 : Nat} (hM : shM P K) (R : rM I hd so) (w : wf hd so) (ha : a < 40) (hw : w0 ≤ hd 1) (hx : x ≤ 999) (hmin : ∀ s, s < w0 → mst (odl so a) (hd 1) s < x) : ∀ (k left needs : Nat) (y z : Int32), k ≤ hd 1 → left ≤ w0 → (left ≠ 0 → z = nI needs ∧ lbI (odl so a) (hd 1) x w0 k left needs) → F (nI w0) (u2 I 91 41 (lbs (odl so a) k left needs y)) J → Ok G (d + 3) mX12_store 83 [some (.ref 91), none, some (.int (nI a)), none, some (.int (nI w0)), some (.int y), some (.int (nI left)), some (.int z), some (.int (nI k - 1))] [] I J P K n (kI P K n F) := by
  have hc := wf_casks w
  intro k
  induction k with
  | zero =>
    intro left needs y z _ _ _ h
    exact bX12_store_83 hM _ _ _ _ _ _ (br_t (by decide) h)
  | succ k ih =>
    intro left needs y z hk hl hz h
    have e1 : nI (k + 1) - 1 = nI k := nI_pred k
    have e2 : ∀ j : Nat, nI j + (-1) = nI j - 1 := fun j => (Int32.sub_eq_add_neg (nI j) 1).symm
    rw [e1]
    refine bX12_store_83 hM _ _ _ _ _ _ (br_f (nI_pos (by omega)) ?_)
    by_cases q : left = 0
    · subst q
      rw [lbs_0] at h
      exact br_t (by decide) h
    obtain ⟨rfl, inv⟩ := hz q
    refine br_f (nI_ge (a := 0) (by omega) (by omega)) ?_
    simp only [lbs, q, if_false] at h
    have hne : needs ≤ x := by obtain ⟨T, _, _, h3⟩ := inv; omega
    have hmo := mst_odl w (a := a) (m := k) (many := left) (by omega)
    -- taking it
    have take : mst (odl so a) k left < needs → Ok G (d + 3) mX12_store 117 [some (.ref 91), none, some (.int (nI a)), none, some (.int (nI w0)), some (.int y), some (.int (nI left)), some (.int (nI needs)), some (.int (nI k))] [] I J P K n (kI P K n F) := by
      intro hlt
      rw [if_pos hlt] at h
      refine bX12_store_117 hM _ _ _ _ _ _ (M_olderIn hM R w (by omega) ha ?_)
      rw [e2, e2, show nI left - 1 = nI (left - 1) from i_sub (b := 1) (by omega)]
      by_cases q2 : left = 1
      · exact ih (left - 1) (needs - odl so a k) _ _ (by omega) (by omega) (fun g => by omega) h
      · have t := lb_take hmin inv (by omega) (by omega)
        exact ih (left - 1) (needs - odl so a k) _ _ (by omega) (by omega) (fun _ => ⟨i_sub (by omega), t.2⟩) h
    by_cases q2 : k < left
    · refine br_t (nI_lt q2 (by omega)) (take ?_)
      have h1 := mst_le (f := odl so a) (m := k) (many := left)
      have h2 := lb_small hmin (lb_skip inv) (by omega) q2
      omega
    · refine br_f (nI_nlt (by omega) (by omega)) (M_mostBelow hM R w (by omega) (by omega) ha ?_)
      by_cases q3 : mst (odl so a) k left < needs
      · exact br_t (nI_lt q3 (by omega)) (take q3)
      · rw [if_neg q3] at h
        refine br_f (nI_nlt (by omega) (by omega)) ?_
        rw [e2]
        exact ih left needs _ _ (by omega) hl (fun _ => ⟨rfl, lb_skip inv⟩) h
theorem M_store {old : Int32} (x a : Int32) (hM : shM P K) (R : rM I hd so) (w : wf hd so) (O : I 91 41 = old) (h : ∀ I', I' 91 41 = kStore hd so x a old → (∀ c k, ¬ (c = 91 ∧ k = 41) → I' c k = u2 I 91 0 0 c k) → F (vStore hd so x a) I' J) : ckI G (d + 3) mX12_store [.ref 91, .int x, .int a] I J P K n F := by
  have R1 := rM_91 R 0 0
  have hc := wf_casks w
  have O1 : u2 I 91 0 0 91 41 = old := by rw [u2_k _ _ _ _ (by decide), O]
  unfold vStore kStore at h
  refine bX12_store_0 hM _ _ (M_isIn _ _ _ (b01n (fun e => ?_) (fun e => M_isVintage a (b01n (fun e2 => ?_) (fun e2 => ?_)))))
  · simp only [e, Bool.false_and, Bool.false_eq_true, if_false] at h
    exact h _ O1 (fun _ _ _ => rfl)
  · simp only [e2, Bool.and_false, Bool.false_and, Bool.false_eq_true, if_false] at h
    exact h _ O1 (fun _ _ _ => rfl)
  · obtain ⟨x, hx1, hx2, rfl⟩ := isB_t (a := 1) (b := 999) (by decide) (by decide) e
    obtain ⟨a, ha, rfl⟩ := inB_t e2
    rw [cl_nI (by omega), cl_nI (by omega)] at h
    simp only [e, e2, Bool.true_and] at h
    rw [R1.1 1 (by decide)]
    have fo := fnd_ok (fun t => decide (x ≤ mst (odl so a) (hd 1) t)) (hd 1) 1
    have ef : fnd (fun t => decide (x ≤ mst (odl so a) (hd 1) t)) (hd 1) 1 = few (odl so a) (hd 1) x := rfl
    rw [ef] at fo
    have m60 : Ok G (d + 3) mX12_store 60 [some (.ref 91), some (.int (nI x)), some (.int (nI a)), some (.int (nI (hd 1))), some (.int (nI (few (odl so a) (hd 1) x))), none, none, none, none] [] (u2 I 91 0 0) J P K n (kI P K n F) := by
      refine bX12_store_60 _ _ _ _ ?_
      by_cases q : few (odl so a) (hd 1) x ≤ hd 1
      · rw [decide_eq_true q] at h
        simp only [if_true] at h
        refine br_t (nI_le q (by omega)) (M_store83 hM R1 w ha q hx2 (fun s hs => ?_) (hd 1) _ x 0 _ (Nat.le_refl _) (Nat.le_refl _) (fun _ => ⟨rfl, fun _ => false, fun _ _ => rfl, ?_, ?_⟩) (h _ (u2_s _ _ _ _) (fun c k g => ?_)))
        · by_cases q2 : s = 0
          · have e0 : mst (odl so a) (hd 1) s = 0 := by
              subst q2
              unfold mst
              rw [if_pos (Nat.zero_le _)]
              rfl
            omega
          · have := of_decide_eq_false (fo.2.2.1 s (by omega) hs)
            omega
        · rw [show szB (fun _ => false) (hd 1) = 0 from sm_eq0.mpr (fun _ _ => rfl), Nat.zero_add]
        · rw [show suB (fun _ => false) (odl so a) (hd 1) = 0 from sm_eq0.mpr (fun _ _ => rfl), Nat.zero_add]
        · simp only [u2]
          rw [if_neg g]
      · rw [decide_eq_false q] at h
        simp only [Bool.false_eq_true, if_false] at h
        exact br_f (nI_ge (by omega) (by omega)) (h _ O1 (fun _ _ _ => rfl))
    have lp : ∀ m t, t + m = hd 1 + 1 → 1 ≤ t → fnd (fun t => decide (x ≤ mst (odl so a) (hd 1) t)) m t = few (odl so a) (hd 1) x → Ok G (d + 3) mX12_store 36 [some (.ref 91), some (.int (nI x)), some (.int (nI a)), some (.int (nI (hd 1))), some (.int (nI t)), none, none, none, none] [] (u2 I 91 0 0) J P K n (kI P K n F) := by
      intro m
      induction m with
      | zero =>
        intro t ht _ hf
        have hf : t = few (odl so a) (hd 1) x := hf
        refine bX12_store_36 hM _ _ _ _ (br_t (nI_lt (by omega) (by omega)) ?_)
        rw [hf]; exact m60
      | succ m ih =>
        intro t ht h1 hf
        have hmo := mst_odl w (a := a) (m := hd 1) (many := t) (Nat.le_refl _)
        simp only [fnd] at hf
        refine bX12_store_36 hM _ _ _ _ (br_f (nI_nlt (by omega) (by omega)) (M_mostBelow hM R1 w (Nat.le_refl _) (by omega) ha ?_))
        by_cases q : x ≤ mst (odl so a) (hd 1) t
        · rw [if_pos (decide_eq_true q)] at hf
          refine br_t (nI_le q (by omega)) ?_
          rw [hf]; exact m60
        · rw [if_neg (fun g => q (of_decide_eq_true g))] at hf
          refine br_f (nI_ge (by omega) (by omega)) ?_
          rw [nI_1]
          exact ih (t + 1) (by omega) (by omega) hf
    exact lp (hd 1) 1 (by omega) (Nat.le_refl _) ef
theorem M_stored {old : Int32} (hM : shM P K) (O : I 91 41 = old) (h : F old (u2 I 91 0 0) J) : ckI G d mX12_stored [.ref 91] I J P K n F := by
  refine bX12_stored_0 hM ?_
  rw [O]; exact h
theorem M_ask {old : Int32} (hM : shM P K) (O : I 91 40 = old) (h : F old (u2 I 91 0 0) J) : ckI G d mX12_ask [.ref 91] I J P K n F := by
  refine bX12_ask_0 hM ?_
  rw [O]; exact h
end ModStore
