/-! acts on the numbers, and the reference's acts -/
def rg (so : Nat → Nat) (q : Nat) (g : Nat → Nat) : Nat → Nat := fun j => if q ≤ j ∧ j < q + 40 then g (j - q) else so j
theorem rg_in (so : Nat → Nat) (q : Nat) (g : Nat → Nat) {v : Nat} (h : v < 40) : rg so q g (q + v) = g v := by
  simp only [rg]
  rw [if_pos ⟨by omega, by omega⟩]
  congr 1
  omega
theorem rg_out (so : Nat → Nat) (q : Nat) (g : Nat → Nat) {j : Nat} (h : j < q ∨ q + 40 ≤ j) : rg so q g j = so j := by
  simp only [rg]
  rw [if_neg (by omega)]
/-- a portion of x litres is out of cask k -/
def tak (so : Nat → Nat) (k x : Nat) : Nat → Nat := rg so (63 + 40 * k) (fun v => wn so k v - shr (wn so k) 40 x v)
/-- wine s comes into cask k -/
def ptt (so : Nat → Nat) (k : Nat) (s : Nat → Nat) : Nat → Nat := rg so (63 + 40 * k) (fun v => wn so k v + s v)
def aDraw (so : Nat → Nat) (k x : Nat) : Nat → Nat := up (up (rg (tak so k x) 3 (shr (wn so k) 40 x)) (43 + k) (so (43 + k) + x)) 1 (so 1 + x)
def aTip (so : Nat → Nat) (k j x : Nat) : Nat → Nat := ptt (tak so k x) j (shr (wn so k) 40 x)
def angA (hd so : Nat → Nat) (k : Nat) : Nat := ltr so k * hd 2 / 100
def aAng (hd so : Nat → Nat) (k : Nat) : Nat → Nat := up (up (tak so k (angA hd so k)) 2 (so 2 + angA hd so k)) (43 + k) 0
def it {α : Type} (f : Nat → α → α) : Nat → α → α
  | 0, a => a
  | n + 1, a => f n (it f n a)
def aYear (hd so : Nat → Nat) : Nat → Nat := up (it (fun k so => aAng hd so k) (hd 1) so) 0 (so 0 + 1)
def tpS (hd so : Nat → Nat) (k : Nat) : Nat → Nat := up so (63 + 40 * k + so 0) (wn so k (so 0) + lck hd so k)
def aTop (hd so : Nat → Nat) : Nat → Nat := it (fun i so => tpS hd so (fst' hd (hd 0 - 1) + i)) (hd (5 + (hd 0 - 1))) so
/-- what runs down: from each cask of the next scale its share, mixed -/
def rnM (hd so : Nat → Nat) (s : Nat) : Nat → (Nat → Nat) × (Nat → Nat) := fun m => it (fun i (p : (Nat → Nat) × (Nat → Nat)) => (tak p.1 (fst' hd (s + 1) + i) (shr (fun j => ltr so (fst' hd (s + 1) + j)) (hd (5 + (s + 1))) (ssc hd (lck hd so) s) i), fun v => p.2 v + shr (wn p.1 (fst' hd (s + 1) + i)) 40 (shr (fun j => ltr so (fst' hd (s + 1) + j)) (hd (5 + (s + 1))) (ssc hd (lck hd so) s) i) v)) m (so, fun _ => 0)
/-- and comes into each cask of the scale -/
def rnF (hd : Nat → Nat) (s : Nat) (p0 : (Nat → Nat) × (Nat → Nat)) : Nat → (Nat → Nat) × (Nat → Nat) := fun m => it (fun i (p : (Nat → Nat) × (Nat → Nat)) => (ptt p.1 (fst' hd s + i) (shr p.2 40 (lck hd p.1 (fst' hd s + i))), fun v => p.2 v - shr p.2 40 (lck hd p.1 (fst' hd s + i)) v)) m p0
def aRun (hd so : Nat → Nat) (s : Nat) : Nat → Nat := (rnF hd s (rnM hd so s (hd (5 + (s + 1)))) (hd (5 + s))).1
theorem wn_rg_s (so : Nat → Nat) (k : Nat) (g : Nat → Nat) {v : Nat} (h : v < 40) : wn (rg so (63 + 40 * k) g) k v = g v := rg_in so (63 + 40 * k) g h
theorem wn_rg_n (so : Nat → Nat) {k k' : Nat} (g : Nat → Nat) {v : Nat} (h : v < 40) (hk : k' ≠ k) : wn (rg so (63 + 40 * k) g) k' v = wn so k' v := rg_out so _ g (by omega)
theorem wn_rg_b (so : Nat → Nat) (g : Nat → Nat) (k v : Nat) : wn (rg so 3 g) k v = wn so k v := rg_out so _ g (by omega)
theorem wn_up (so : Nat → Nat) {j : Nat} (x k v : Nat) (h : j < 63) : wn (up so j x) k v = wn so k v := up_n _ _ (by omega)
theorem ltr_congr {so so' : Nat → Nat} {k : Nat} (h : ∀ v, v < 40 → wn so k v = wn so' k v) : ltr so k = ltr so' k := sm_congr h
theorem ltr_tak {so : Nat → Nat} {k x : Nat} (h : x ≤ ltr so k) : ltr (tak so k x) k + x = ltr so k := by
  have hs := shr_ok (own := wn so k) (m := 40) (n := x) h
  have e : ltr (tak so k x) k = sm (fun v => wn so k v - shr (wn so k) 40 x v) 40 := sm_congr (fun v hv => wn_rg_s so k _ hv)
  have e2 : sm (fun v => (wn so k v - shr (wn so k) 40 x v) + shr (wn so k) 40 x v) 40 = ltr so k := sm_congr (fun v hv => by have := hs.1 v hv; omega)
  rw [sm_add] at e2
  rw [e]
  have := hs.2
  omega
theorem ltr_tak_n {so : Nat → Nat} {k k' x : Nat} (h : k' ≠ k) : ltr (tak so k x) k' = ltr so k' := sm_congr (fun v hv => wn_rg_n so _ hv h)
theorem ltr_ptt {so : Nat → Nat} {k : Nat} {s : Nat → Nat} : ltr (ptt so k s) k = ltr so k + sm s 40 := by
  have e : ltr (ptt so k s) k = sm (fun v => wn so k v + s v) 40 := sm_congr (fun v hv => wn_rg_s so k _ hv)
  rw [e, sm_add]
  rfl
theorem ltr_ptt_n {so : Nat → Nat} {k k' : Nat} {s : Nat → Nat} (h : k' ≠ k) : ltr (ptt so k s) k' = ltr so k' := sm_congr (fun v hv => wn_rg_n so _ hv h)
theorem tak_lo {so : Nat → Nat} {k x j : Nat} (h : j < 63) : tak so k x j = so j := rg_out so _ _ (by omega)
theorem ptt_lo {so : Nat → Nat} {k j : Nat} {s : Nat → Nat} (h : j < 63) : ptt so k s j = so j := rg_out so _ _ (by omega)
/-- the year, the litres and the young vintages decide whether all is well -/
theorem wf_of {hd so so' : Nat → Nat} (w : wf hd so) (hy : so' 0 = so 0) (hl : ∀ k, k < hd 1 → ltr so' k ≤ hol hd k) (hv : ∀ k v, k < hd 1 → so 0 < v → v < 40 → wn so' k v = 0) (hdr : ∀ k, k < 20 → so' (43 + k) ≤ 400) : wf hd so' := by
  obtain ⟨w1, w2, w3, w4, w5, w6, w7, w8, w9, w10, w11⟩ := w
  exact ⟨w1, w2, w3, w4, w5, w6, by omega, hl, fun k v hk hv2 h40 => hv k v hk (by omega) h40, hdr, w11⟩
theorem wf_tak {hd so : Nat → Nat} (w : wf hd so) {k x : Nat} (hx : x ≤ ltr so k) : wf hd (tak so k x) := by
  refine wf_of w (tak_lo (by decide)) (fun j hj => ?_) (fun j v hj hv h40 => ?_) (fun j hj => by rw [tak_lo (by omega)]; exact w.2.2.2.2.2.2.2.2.2.1 j hj)
  · have := w.2.2.2.2.2.2.2.1 j hj
    by_cases e : j = k
    · subst e; have := ltr_tak hx; omega
    · rw [ltr_tak_n e]; exact this
  · have h0 := w.2.2.2.2.2.2.2.2.1 j v hj hv h40
    by_cases e : j = k
    · subst e
      show wn (rg _ _ _) _ _ = 0
      rw [wn_rg_s _ _ _ h40, h0]
      omega
    · show wn (rg _ _ _) _ _ = 0
      rw [wn_rg_n _ _ h40 e]; exact h0
theorem wf_ptt {hd so : Nat → Nat} (w : wf hd so) {k : Nat} {s : Nat → Nat} (hl : k < hd 1 → ltr so k + sm s 40 ≤ hol hd k) (hv : ∀ v, so 0 < v → v < 40 → s v = 0) : wf hd (ptt so k s) := by
  refine wf_of w (ptt_lo (by decide)) (fun j hj => ?_) (fun j v hj hv2 h40 => ?_) (fun j hj => by rw [ptt_lo (by omega)]; exact w.2.2.2.2.2.2.2.2.2.1 j hj)
  · by_cases e : j = k
    · subst e; rw [ltr_ptt]; exact hl hj
    · rw [ltr_ptt_n e]; exact w.2.2.2.2.2.2.2.1 j hj
  · have h0 := w.2.2.2.2.2.2.2.2.1 j v hj hv2 h40
    by_cases e : j = k
    · subst e
      show wn (rg _ _ _) _ _ = 0
      rw [wn_rg_s _ _ _ h40, h0, hv v hv2 h40]
    · show wn (rg _ _ _) _ _ = 0
      rw [wn_rg_n _ _ h40 e]; exact h0
theorem ltr_up {so : Nat → Nat} {j x k : Nat} (h : j < 63) : ltr (up so j x) k = ltr so k := sm_congr (fun v _ => wn_up so x k v h)
theorem wf_up {hd so : Nat → Nat} (w : wf hd so) {j x : Nat} (h : 0 < j) (h2 : j < 63) (hx : 43 ≤ j → x ≤ 400) : wf hd (up so j x) := by
  refine wf_of w (up_n _ _ (by omega)) (fun k hk => by rw [ltr_up h2]; exact w.2.2.2.2.2.2.2.1 k hk) (fun k v hk hv h40 => by rw [wn_up so x k v h2]; exact w.2.2.2.2.2.2.2.2.1 k v hk hv h40) (fun k hk => ?_)
  by_cases e : 43 + k = j
  · rw [e, up_s]; exact hx (by omega)
  · rw [up_n _ _ e]; exact w.2.2.2.2.2.2.2.2.2.1 k hk
theorem wf_bot {hd so : Nat → Nat} (w : wf hd so) (g : Nat → Nat) : wf hd (rg so 3 g) := by
  refine wf_of w (rg_out _ _ _ (by omega)) (fun k hk => by rw [ltr_congr (so' := so) (fun v _ => wn_rg_b so g k v)]; exact w.2.2.2.2.2.2.2.1 k hk) (fun k v hk hv h40 => by rw [wn_rg_b]; exact w.2.2.2.2.2.2.2.2.1 k v hk hv h40) (fun k hk => by rw [rg_out _ _ _ (by omega)]; exact w.2.2.2.2.2.2.2.2.2.1 k hk)
theorem wf_draw {hd so : Nat → Nat} (w : wf hd so) {k x : Nat} (hx : x ≤ ltr so k) (hm : so (43 + k) + x ≤ hd 3) (hk : k < 20) : wf hd (aDraw so k x) := by
  have h3 := w.2.2.2.2.1.2
  exact wf_up (wf_up (wf_bot (wf_tak w hx) _) (by omega) (by omega) (fun _ => by omega)) (by omega) (by omega) (fun h => by omega)
theorem angA_le {hd so : Nat → Nat} (w : wf hd so) (k : Nat) : angA hd so k ≤ ltr so k := by
  unfold angA
  have h2 : hd 2 ≤ 9 := w.2.2.2.1
  have : ltr so k * hd 2 ≤ ltr so k * 100 := Nat.mul_le_mul_left _ (by omega)
  exact Nat.div_le_of_le_mul (by rw [Nat.mul_comm 100]; exact this)
theorem wf_ang {hd so : Nat → Nat} (w : wf hd so) {k : Nat} (hk : k < 20) : wf hd (aAng hd so k) :=
  wf_up (wf_up (wf_tak w (angA_le w k)) (by omega) (by omega) (fun h => by omega)) (by omega) (by omega) (fun _ => by omega)
theorem wf_tip {hd so : Nat → Nat} (w : wf hd so) {k j x : Nat} (hk : k < hd 1) (hx : x ≤ ltr so k) (hkj : k ≠ j) (hl : x ≤ lck hd so j) (hj : j < hd 1) : wf hd (aTip so k j x) := by
  have hs := shr_ok (own := wn so k) (m := 40) (n := x) hx
  refine wf_ptt (wf_tak w hx) (fun _ => ?_) (fun v hv h40 => ?_)
  · rw [ltr_tak_n hkj.symm, hs.2]
    unfold lck at hl
    have := w.2.2.2.2.2.2.2.1 j hj
    omega
  · rw [tak_lo (by decide)] at hv
    exact shr_0 hx h40 (w.2.2.2.2.2.2.2.2.1 k v hk hv h40)
theorem wf_tpS {hd so : Nat → Nat} (w : wf hd so) {k : Nat} (hk : k < hd 1) : wf hd (tpS hd so k) := by
  have hy : so 0 ≤ 39 := w.2.2.2.2.2.2.1
  have hle := w.2.2.2.2.2.2.2.1 k hk
  refine wf_of w (up_n _ _ (by omega)) (fun j hj => ?_) (fun j v hj hv h40 => ?_) (fun j hj => by rw [tpS, up_n _ _ (by omega)]; exact w.2.2.2.2.2.2.2.2.2.1 j hj)
  · by_cases e : j = k
    · subst e
      have e2 : ltr (tpS hd so j) j = sm (fun v => if v = so 0 then wn so j (so 0) + lck hd so j else wn so j v) 40 := sm_congr (fun v hv => by
        simp only [tpS, wn, up]
        by_cases q : v = so 0
        · rw [if_pos (by omega), if_pos q]
        · rw [if_neg (by omega), if_neg q])
      have u := sm_upd (f := wn so j) (n := 40) (k := so 0) (v := wn so j (so 0) + lck hd so j) (by omega)
      have e3 : sm (wn so j) 40 = ltr so j := rfl
      have e4 : lck hd so j = hol hd j - ltr so j := rfl
      rw [e2]
      omega
    · have e5 : ltr (tpS hd so k) j = ltr so j := sm_congr (fun v hv => by simp only [tpS, wn, up]; rw [if_neg (by omega)])
      rw [e5]
      exact w.2.2.2.2.2.2.2.1 j hj
  · show up so _ _ _ = 0
    rw [up_n _ _ (by omega)]
    exact w.2.2.2.2.2.2.2.2.1 j v hj hv h40
theorem it_inv {α : Type} {f : Nat → α → α} {a : α} (Q : Nat → α → Prop) (h0 : Q 0 a) {n : Nat} (hs : ∀ k, k < n → ∀ b, Q k b → Q (k + 1) (f k b)) : ∀ k, k ≤ n → Q k (it f k a) := by
  intro k
  induction k with
  | zero => intro _; exact h0
  | succ k ih => intro h; exact hs k (by omega) _ (ih (by omega))
theorem wf_year {hd so : Nat → Nat} (w : wf hd so) (hy : so 0 < 39) : wf hd (aYear hd so) := by
  have hc := wf_casks w
  obtain ⟨w1, y1⟩ : wf hd (it (fun k so => aAng hd so k) (hd 1) so) ∧ it (fun k so => aAng hd so k) (hd 1) so 0 = so 0 := by
    refine it_inv (f := fun k so => aAng hd so k) (a := so) (fun _ so' => wf hd so' ∧ so' 0 = so 0) ⟨w, rfl⟩ (n := hd 1) (fun k hk b hb => ⟨wf_ang hb.1 (by omega), ?_⟩) (hd 1) (Nat.le_refl _)
    show aAng hd b k 0 = so 0
    unfold aAng
    rw [up_n _ _ (by omega), up_n _ _ (by omega), tak_lo (by decide)]
    exact hb.2
  unfold aYear
  generalize it (fun k so => aAng hd so k) (hd 1) so = so1 at w1 y1 ⊢
  obtain ⟨v1, v2, v3, v4, v5, v6, v7, v8, v9, v10, v11⟩ := id w1
  refine ⟨v1, v2, v3, v4, v5, v6, ?_, fun k hk => ?_, fun k v hk hv h40 => ?_, fun k hk => ?_, v11⟩
  · simp only [up, if_true]; omega
  · rw [ltr_up (by decide)]; exact v8 k hk
  · rw [wn_up _ _ _ _ (by decide)]
    refine v9 k v hk ?_ h40
    simp only [up, if_true] at hv
    omega
  · rw [up_n _ _ (by omega)]; exact v10 k hk
