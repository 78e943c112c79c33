/-! the reference: blend and blendAt -/
theorem blF_keep {A : Nat} {f : Nat → Nat → Nat} {lim : Nat → Nat} : ∀ (r i left t : Nat) (row : Nat → Nat) (s : bSt), s ≠ none → blF A f lim r i left t row s ≠ none := by
  intro r
  induction r with
  | zero =>
    intro i left t row s hs
    simp only [blF, blL]
    split
    · exact Option.some_ne_none _
    · exact hs
  | succ r ih =>
    intro i left t row s hs
    simp only [blF]
    exact it_inv (f := fun x s => blF A f lim r (i + 1) (left - x) (t + f i x) (up row i x) s) (a := s) (fun _ s => s ≠ none) hs (fun k _ b hb => ih _ _ _ _ _ hb) _ (Nat.le_refl _)
theorem blF_some {A : Nat} {f : Nat → Nat → Nat} {lim : Nat → Nat} {m x0 : Nat} (hA : A ≤ 1000) (hf : ∀ j y, j < m → y ≤ x0 → y ≤ lim j → f j y ≤ 1000) : ∀ (r i left t : Nat) (row : Nat → Nat) (s : bSt), i + r = m → left ≤ x0 → t + 1000 * r ≤ 4000 → left ≤ sm (fun j => lim (i + j)) r → blF A f lim r i left t row s ≠ none := by
  intro r
  induction r with
  | zero =>
    intro i left t row s hi hl ht h
    have h0 : left = 0 := Nat.le_zero.mp h
    cases s with
    | some p => exact blF_keep 0 i left t row (some p) (Option.some_ne_none p)
    | none =>
      have hfar : far A t < bo none := by
        show far A t < 1000000
        unfold far
        split <;> omega
      simp only [blF, blL]
      rw [if_pos ⟨h0, hfar⟩]
      exact Option.some_ne_none _
  | succ r ih =>
    intro i left t row s hi hl ht h
    have e : sm (fun j => lim (i + j)) (r + 1) = lim i + sm (fun j => lim (i + 1 + j)) r := by
      rw [Nat.add_comm r 1, sm_split]
      congr 1
      · show 0 + lim (i + 0) = lim i
        rw [Nat.zero_add]; rfl
      · exact sm_congr (fun j _ => by rw [Nat.add_assoc])
    rw [e] at h
    simp only [blF]
    obtain ⟨N, hN⟩ : ∃ N, (if left ≤ lim i then left else lim i) = N := ⟨_, rfl⟩
    have hN1 : N ≤ left ∧ N ≤ lim i := by rw [← hN]; split <;> omega
    have hN2 : N = left ∨ N = lim i := by rw [← hN]; split <;> omega
    rw [hN]
    have hfx := hf i N (by omega) (by omega) (by omega)
    exact ih (i + 1) (left - N) (t + f i N) (up row i N) _ (by omega) (by omega) (by omega) (by omega)
def bRow (s : bSt) : Nat → Nat := match s with
  | none => fun _ => 0
  | some p => p.2
def rBl (I : sI) (bm : Nat) (row : Nat → Nat) : Prop := I 91 37 = nI bm ∧ bm ≤ 4 ∧ ∀ k, k < bm → I 109 k = nI (row k)
def vBlend (hd so : Nat → Nat) (s x a : Int32) : Int32 := if blOk hd so s x a then nI (bo (blR hd so (cl s) (cl x) (cl a))) else -1
def mBlend (hd so : Nat → Nat) (s x a : Int32) (bm : Nat) : Nat := if blOk hd so s x a then hd (5 + cl s) else bm
def wBlend (hd so : Nat → Nat) (s x a : Int32) (row : Nat → Nat) : Nat → Nat := if blOk hd so s x a then bRow (blR hd so (cl s) (cl x) (cl a)) else row
section ModBlend2
variable {G : gG} {d : Nat} {I : sI} {J : sJ} {P : sP} {K : sK} {n : Nat} {F : Int32 → sI → sJ → Prop} {FV : sI → sJ → Prop} {hd so : Nat → Nat}
theorem blR_some (w : wf hd so) {s x a : Nat} (hs : s < hd 0) (hx : x ≤ 20) (ha : a < 40) (h : x ≤ ssc hd (ltr so) s) : blR hd so s x a ≠ none := by
  have hm := (w.2.1 s hs).2.1
  have hA : x * a ≤ 20 * 39 := Nat.mul_le_mul hx (by omega)
  refine blF_some (m := hd (5 + s)) (x0 := 20) (by omega) (fun j y _ hy hl => ?_) _ _ _ _ _ _ (by omega) hx (by omega) ?_
  · have := agp_le w hl
    omega
  · rw [show sm (fun j => ltr so (fst' hd s + (0 + j))) (hd (5 + s)) = ssc hd (ltr so) s from sm_congr (fun j _ => by rw [Nat.zero_add])]
    exact h
theorem M_blend {bm : Nat} {row : Nat → Nat} (y x a : Int32) (hM : shM P K) (R : rM I hd so) (w : wf hd so) (B : rBl I bm row) (h : ∀ I', rBl I' (mBlend hd so y x a bm) (wBlend hd so y x a row) → frL (u2 I 91 0 0) I' → F (vBlend hd so y x a) I' J) : ckI G (d + 7) mX12_blend [.ref 91, .int y, .int x, .int a] I J P K n F := by
  have R1 := rM_91 R 0 0
  have h5 := w.1
  have hc := wf_casks w
  have fr : frL (u2 I 91 0 0) (u2 I 91 0 0) := fun _ _ _ _ _ => rfl
  have B1 : rBl (u2 I 91 0 0) bm row := ⟨(u2_k _ _ _ _ (by decide)).trans B.1, B.2.1, fun k hk => (u2_a _ _ _ _ (by decide)).trans (B.2.2 k hk)⟩
  have no : blOk hd so y x a = false → F (-1) (u2 I 91 0 0) J := by
    intro e
    simp only [vBlend, mBlend, wBlend, e, Bool.false_eq_true, if_false] at h
    exact h _ B1 fr
  refine bX12_blend_0 hM _ _ _ (M_isScale y hM R1 w (b01n (fun e => ?_) (fun e => M_isIn _ _ _ (b01n (fun e2 => ?_) (fun e2 => M_isVintage a (b01n (fun e3 => ?_) (fun e3 => ?_)))))))
  · exact no (by simp [blOk, e])
  · exact no (by simp [blOk, e2])
  · exact no (by simp [blOk, e3])
  obtain ⟨s, hs, rfl⟩ := inB_t e
  obtain ⟨x, hx1, hx2, rfl⟩ := isB_t (a := 1) (b := 20) (by decide) (by decide) e2
  obtain ⟨a, ha, rfl⟩ := inB_t e3
  have hL := ssc_le w hs (f := ltr so) (fun k hk => wf_ltr w hk)
  have hm := (w.2.1 s hs)
  have hA : x * a ≤ 20 * 39 := Nat.mul_le_mul hx2 (by omega)
  refine M_sumOf 0 (ltr so) hM R1 w hs (Or.inl ⟨rfl, rfl⟩) ?_
  by_cases q : x ≤ ssc hd (ltr so) s
  · have eO : blOk hd so (nI s) (nI x) (nI a) = true := by
      simp only [blOk, e, e2, e3, Bool.true_and]
      rw [cl_nI (by omega), cl_nI (by omega)]
      exact decide_eq_true q
    simp only [vBlend, mBlend, wBlend, eO, if_true] at h
    rw [cl_nI (by omega), cl_nI (by omega), cl_nI (by omega)] at h
    refine br_t (nI_le q (by omega)) (M_firstNow hM R1 (by omega) ?_)
    have e5 : (5 + nI s : Int32) = nI (5 + s) := by show nI 5 + nI s = _; rw [i_add]
    rw [e5, nI_ck (by omega), R1.1 _ (by omega)]
    refine ⟨nI_inN (by omega) (by omega), ?_⟩
    have hf0 : fst' hd s + hd (5 + s) ≤ hd 1 := by
      have := wf_in w hs (i := hd (5 + s) - 1) (by omega)
      omega
    have key := loopN (hd (5 + s)) (fun i => ∀ I', (∀ j y, j < i → y ≤ x → y ≤ ltr so (fst' hd s + j) → I' 108 (21 * j + y) = nI (agp so (fst' hd s + j) y)) → (∀ c k, ¬ d3 c → c ≠ 108 → I' c k = u2 I 91 0 0 c k) → Ok G (d + 7) mX12_blend 66 [some (.ref 91), none, some (.int (nI x)), some (.int (nI a)), some (.int (nI (fst' hd s))), some (.int (nI (hd (5 + s)))), some (.int (nI i)), none] [] I' J P K n (kI P K n F)) ?_ ?_ 0 (by omega)
    · exact key _ (fun j y hj => by omega) (fun _ _ _ _ => rfl)
    · intro I' g1 g2
      refine bX12_blend_66 hM _ _ _ _ _ (br_t (nI_le (Nat.le_refl _) (by omega)) ?_)
      have eA : -nI x * nI a = nI 0 - nI (x * a) := by
        rw [Int32.neg_mul, i_mul]
        exact (Int32.zero_sub _).symm
      rw [eA]
      have R' : rM (u2 (u2 I' 91 38 1000000) 91 37 (nI (hd (5 + s)))) hd so := rM_fr R1 (fun k => by rw [u2_a _ _ _ _ (by decide), u2_a _ _ _ _ (by decide), g2 93 k (by unfold d3; omega) (by decide)])
      have ed : d + 4 - hd (5 + s) + hd (5 + s) + 2 = d + 6 := by omega
      have bf := M_blendFrom (G := G) (J := J) (n := n) (d := d + 4 - hd (5 + s)) (m := hd (5 + s)) (A := x * a) (f0 := fst' hd s) (x0 := x) (f := fun j y => agp so (fst' hd s + j) y) hM w hm.2.1 hf0 (by omega) hx2 (hd (5 + s)) 0 x 0 (fun _ => 0) none (u2 (u2 I' 91 38 1000000) 91 37 (nI (hd (5 + s)))) (fun I2 J3 => F (I2 91 38) I2 J3) (by omega) (Nat.le_refl _) (by omega) (fun j y _ _ hl => by
        have := agp_le w hl
        omega) R' (fun j y hj hy hl => by
        rw [u2_a _ _ _ _ (by decide), u2_a _ _ _ _ (by decide)]
        exact g1 j y hj hy hl) (fun k hk => by omega) ⟨(u2_k _ _ _ _ (by decide)).trans (u2_s _ _ _ _), Nat.le_refl _, fun p hp => by cases hp⟩ (fun I2 B2 f2 _ => ?_)
      · rw [ed] at bf
        exact bf
      · rw [show I2 91 38 = nI (bo (blR hd so s x a)) from B2.1]
        have hne := blR_some w hs hx2 ha q
        refine h I2 ⟨?_, hm.2.1, fun k hk => ?_⟩ (fun c k a1 a2 a3 => ?_)
        · rw [f2 91 37 (by decide) (by decide) (by omega), u2_s]
        · cases e9 : blR hd so s x a with
          | none => exact absurd e9 hne
          | some p =>
            have e10 : blF (x * a) (fun j y => agp so (fst' hd s + j) y) (fun j => ltr so (fst' hd s + j)) (hd (5 + s)) 0 x 0 (fun _ => 0) none = some p := e9
            exact B2.2.2 p e10 k hk
        · rw [f2 c k (by omega) (by omega) (by omega), ← g2 c k a1 (by omega)]
          simp only [u2]
          rw [if_neg (by omega), if_neg (by omega)]
    · intro i hi ih I' g1 g2
      have hl := wf_ltr w (k := fst' hd s + i) (by omega)
      refine bX12_blend_66 hM _ _ _ _ _ (br_f (nI_ge hi (by omega)) ?_)
      obtain ⟨N, hN⟩ : ∃ N, (if x ≤ ltr so (fst' hd s + i) then x else ltr so (fst' hd s + i)) = N := ⟨_, rfl⟩
      have hN1 : N ≤ x ∧ N ≤ ltr so (fst' hd s + i) := by rw [← hN]; split <;> omega
      have hN2 : N = x ∨ N = ltr so (fst' hd s + i) := by rw [← hN]; split <;> omega
      have key2 := loopN (N + 1) (fun t => ∀ I2, (∀ j y, j < i → y ≤ x → y ≤ ltr so (fst' hd s + j) → I2 108 (21 * j + y) = nI (agp so (fst' hd s + j) y)) → (∀ y, y < t → I2 108 (21 * i + y) = nI (agp so (fst' hd s + i) y)) → (∀ c k, ¬ d3 c → c ≠ 108 → I2 c k = u2 I 91 0 0 c k) → Ok G (d + 7) mX12_blend 76 [some (.ref 91), none, some (.int (nI x)), some (.int (nI a)), some (.int (nI (fst' hd s))), some (.int (nI (hd (5 + s)))), some (.int (nI i)), some (.int (nI t))] [] I2 J P K n (kI P K n F)) ?_ ?_ 0 (by omega)
      · exact key2 I' g1 (fun y hy => by omega) g2
      · intro I2 k1 k2 k3
        have R2 : rM I2 hd so := rM_fr R1 (fun k => k3 93 k (by unfold d3; omega) (by decide))
        have go := ih I2 (fun j y hj hy hl2 => by
          by_cases q2 : j = i
          · subst q2; exact k2 y (by omega)
          · exact k1 j y (by omega) hy hl2) k3
        refine bX12_blend_76 hM _ _ _ _ _ _ ?_
        rw [nI_1 i, i_add]
        by_cases q2 : x < N + 1
        · exact br_t (nI_lt q2 (by omega)) go
        · exact br_f (nI_nlt (by omega) (by omega)) (M_litresOf hM R2 (by omega) (br_t (nI_lt (by omega) (by omega)) go))
      · intro t ht ih2 I2 k1 k2 k3
        have R2 : rM I2 hd so := rM_fr R1 (fun k => k3 93 k (by unfold d3; omega) (by decide))
        have e21 : 21 * nI i + nI t = nI (21 * i + t) := by show nI 21 * nI i + nI t = _; rw [i_mul, i_add]
        refine bX12_blend_76 hM _ _ _ _ _ _ ?_
        rw [nI_1 t, i_add, e21, nI_ck (by omega)]
        refine br_f (nI_nlt (by omega) (by omega)) (M_litresOf hM R2 (by omega) (br_f (nI_nlt (by omega) (by omega)) (M_agesOfPortion hM R2 w (by omega) (by omega) (fun I3 g3 => ⟨nI_inN (by omega) (by decide), ?_⟩))))
        have g108 : ∀ k, I3 108 k = I2 108 k := fun k => g3 108 k (by unfold d3; omega)
        refine ih2 _ (fun j y hj hy hl2 => ?_) (fun y hy => ?_) (fun c k c1 c2 => ?_)
        · rw [u2_k _ _ _ _ (by omega), g108]; exact k1 j y hj hy hl2
        · by_cases q3 : y = t
          · subst q3; rw [u2_s]
          · rw [u2_k _ _ _ _ (by omega), g108]; exact k2 y (by omega)
        · rw [u2_a _ _ _ _ c2, g3 c k c1]; exact k3 c k c1 c2
  · refine br_f (nI_ge (by omega) (by omega)) (no ?_)
    simp only [blOk, e, e2, e3, Bool.true_and]
    rw [cl_nI (by omega), cl_nI (by omega)]
    exact decide_eq_false q
theorem M_blendAt {bm : Nat} {row : Nat → Nat} (x : Int32) (hM : shM P K) (B : rBl I bm row) (h : F (if inB x bm then nI (row (cl x)) else -1) (u2 I 91 0 0) J) : ckI G (d + 1) mX12_blendAt [.ref 91, .int x] I J P K n F := by
  obtain ⟨B1, B2, B3⟩ := B
  refine bX12_blendAt_0 hM _ ?_
  rw [B1]
  refine M_isIn _ _ _ ?_
  rw [isB_0 x (by omega)]
  refine b01n (fun e => ?_) (fun e => ?_)
  · rw [e] at h; exact h
  · obtain ⟨k, hk, rfl⟩ := inB_t e
    rw [e, if_pos rfl, cl_nI (by omega)] at h
    rw [nI_ck (by omega), u2_a _ _ _ _ (by decide), B3 k hk]
    exact ⟨nI_inN (by omega) (by decide), h⟩
end ModBlend2
