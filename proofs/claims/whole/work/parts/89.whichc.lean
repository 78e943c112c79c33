/-! the class: which -/
theorem sm_one {t x m : Nat} (h : t < m) : sm (fun v => if t = v then x else 0) m = x := by
  have := sm_upd (f := fun _ => 0) (n := m) (k := t) (v := x) h
  have e : sm (fun i => if i = t then x else (fun _ => 0) i) m = sm (fun v => if t = v then x else 0) m := sm_congr (fun i _ => by
    by_cases c : i = t
    · rw [if_pos c, if_pos c.symm]
    · rw [if_neg c, if_neg (Ne.symm c)])
  rw [e, sm_zero] at this
  omega
theorem pr_sum {tp : Nat → Nat} : ∀ m, (∀ i, i < m → tp (2 * i) < 40) → sm (pr tp m) 40 = sm (fun i => tp (2 * i + 1)) m := by
  intro m
  induction m with
  | zero => intro _; exact sm_zero 40
  | succ m ih =>
    intro h
    have e : sm (pr tp (m + 1)) 40 = sm (fun v => pr tp m v + (if tp (2 * m) = v then tp (2 * m + 1) else 0)) 40 := sm_congr (fun v _ => rfl)
    rw [e, sm_add, ih (fun i hi => h i (by omega)), sm_one (h m (by omega))]
    rfl
theorem mxN_mem {f : Nat → Nat} : ∀ {m k : Nat}, k < m → f k ≤ mxN f m := by
  intro m
  induction m with
  | zero => intro k h; omega
  | succ m ih =>
    intro k h
    simp only [mxN]
    by_cases e : k = m
    · subst e; split <;> omega
    · have := ih (k := k) (by omega)
      split <;> omega
theorem mxN_eq {f g : Nat → Nat} {m : Nat} (h1 : ∀ k, k < m → f k ≤ g k) (h2 : ∀ k, k < m → ∃ k', k' < m ∧ g k ≤ f k') : mxN f m = mxN g m := by
  refine Nat.le_antisymm (mxN_le (fun k hk => Nat.le_trans (h1 k hk) (mxN_mem hk))) (mxN_le (fun k hk => ?_))
  obtain ⟨k', a, b⟩ := h2 k hk
  exact Nat.le_trans b (mxN_mem a)
/-- alike from cask k on -/
def cnF (so : Nat → Nat) (b : Nat → Bool) (v k r : Nat) : Nat := sm (fun i => if b (k + i) && decide (wn so (k + i) v = wn so k v) then 1 else 0) r
theorem lft_F (so : Nat → Nat) (b : Nat → Bool) (m v : Nat) : mxN (fun k => if b k then cnF so b v k (m - k) else 0) m = lft so b m v := by
  unfold lft
  refine mxN_eq (fun k hk => ?_) (fun k hk => ?_)
  · by_cases e : b k = true
    · rw [if_pos e, if_pos e]
      obtain ⟨r, rfl⟩ : ∃ r, m = k + r := ⟨m - k, by omega⟩
      unfold cnt cnF
      rw [sm_split, show k + r - k = r by omega]
      exact Nat.le_add_left _ _
    · rw [if_neg e]; exact Nat.zero_le _
  · by_cases e : b k = true
    · rw [if_pos e]
      obtain ⟨q, ⟨q1, q2, q3⟩, q4⟩ := pk_least (fun j => j ≤ k ∧ b j = true ∧ wn so j v = wn so k v) ⟨k, Nat.le_refl _, e, rfl⟩
      refine ⟨q, by omega, ?_⟩
      rw [if_pos q2]
      obtain ⟨r, rfl⟩ : ∃ r, m = q + r := ⟨m - q, by omega⟩
      unfold cnt cnF
      rw [sm_split, show q + r - q = r by omega]
      have z : sm (fun j => if b j && decide (wn so j v = wn so k v) then 1 else 0) q = 0 := sm_eq0.mpr (fun j hj => by
        by_cases c : (b j && decide (wn so j v = wn so k v)) = true
        · rw [Bool.and_eq_true] at c
          exact absurd ⟨by omega, c.1, of_decide_eq_true c.2⟩ (q4 j hj)
        · rw [if_neg c])
      rw [z, q3, Nat.zero_add]
      exact Nat.le_refl _
    · rw [if_neg e]; exact ⟨k, hk, Nat.zero_le _⟩
section WhichC
variable {G : gG} {d : Nat} {I : sI} {J : sJ} {P : sP} {K : sK} {n : Nat} {F : Int32 → sI → sJ → Prop} {FV : sI → sJ → Prop} {hd so : Nat → Nat} {c l : Nat}
theorem C_noVintage (x : Int32) (h : F (b01 (!inB x 40)) I J) : ckI G d mX11_noVintage [.int x] I J P K n F := by
  refine bX11_noVintage_0 _ ?_
  rcases i_cases x with q | ⟨j, hj, rfl⟩
  · have e : inB x 40 = false := by
      cases e : inB x 40 with
      | false => rfl
      | true =>
        obtain ⟨k, hk, rfl⟩ := inB_t e
        exact absurd q (nI_pos (by omega))
    rw [e] at h
    exact br_t q h
  · refine br_f (nI_pos hj) ?_
    by_cases z : j < 40
    · rw [inB_nI z (by decide)] at h
      exact br_t (nI_lt (b := 40) z (by decide)) h
    · have e : inB (nI j) 40 = false := by
        cases e : inB (nI j) 40 with
        | false => rfl
        | true =>
          obtain ⟨k, hk, e2⟩ := inB_t e
          have := (nI_eq hj (by omega)).mp e2
          omega
      rw [e] at h
      exact br_f (nI_nlt (b := 40) (by omega) hj) h
/-- the tape of the class -/
def rTc (I : sI) (tl : Nat) (tp : Nat → Nat) : Prop := I 0 1 = nI tl ∧ tl ≤ 940 ∧ ∀ j, j < tl → I 1 j = nI (tp j) ∧ tp j ≤ 255
theorem C_readPairs {tl : Nat} {tp : Nat → Nat} (hX : shX P K) (ht : tl ≤ 940) (T : ∀ j, j < tl → I 1 j = nI (tp j) ∧ tp j ≤ 255) (h : ∀ I', (whB tl tp = true → (∀ v, v < 40 → I' 18 v = nI (pr tp (tl / 2) v)) ∧ I' 10 7 = nI (sm (pr tp (tl / 2)) 40)) → (∀ a k, a ≠ 18 → ¬ (a = 10 ∧ k = 7) → I' a k = I a k) → F (b01 (whB tl tp)) I' J) : ckI G (d + 1) mX7_readPairs [.ref 10, .ref 1, .int (nI tl)] I J P K n F := by
  have no : whB tl tp = false → F 0 I J := fun e => by
    have := h I (fun z => by rw [e] at z; cases z) (fun _ _ _ _ => rfl)
    rw [e] at this
    exact this
  refine bX7_readPairs_0 _ _ ?_
  rw [shX_K1 hX]
  refine ⟨rfl, br_f (nI_nlt (a := 940) ht (by decide)) ?_⟩
  by_cases c1 : tl < 2
  · refine br_t (nI_lt (b := 2) c1 (by decide)) (no ?_)
    unfold whB
    rw [decide_eq_false (show ¬ (1 ≤ tl / 2 ∧ tl / 2 ≤ 20) by omega), Bool.and_false]; rfl
  · refine br_f (nI_nlt (b := 2) (by omega) (by omega)) ?_
    by_cases c2 : 40 < tl
    · refine br_t (nI_lt (a := 40) c2 (by omega)) ?_
      by_cases c3 : tl % 2 = 0
      · refine no ?_
        unfold whB
        rw [decide_eq_false (show ¬ (1 ≤ tl / 2 ∧ tl / 2 ≤ 20) by omega), Bool.and_false]; rfl
      · refine no ?_
        unfold whB
        rw [decide_eq_false c3]; rfl
    · refine br_f (nI_nlt (a := 40) (by omega) (by decide)) ?_
      have er : nI tl - nI tl / 2 * 2 = nI (tl % 2) := i_rem (b := 2) (by omega) (by decide) (by decide)
      rw [er]
      by_cases c3 : tl % 2 = 0
      · rw [c3]
        refine br_t rfl ?_
        obtain ⟨m, rfl⟩ : ∃ m, tl = 2 * m := ⟨tl / 2, by omega⟩
        have em : 2 * m / 2 = m := by omega
        have key := loopN m (fun i => (∀ k, k < i → tp (2 * k) < 40) → Ok G (d + 1) mX7_readPairs 27 [some (.ref 10), some (.ref 1), some (.int (nI (2 * m))), some (.int (nI (2 * i)))] [] I J P K n (kI P K n F)) ?_ ?_ 0 (by omega)
        · exact key (fun k hk => by omega)
        · intro hv
          have hall : allB (fun i => decide (tp (2 * i) < 40)) m = true := allB_t.mpr (fun k hk => decide_eq_true (hv k hk))
          refine bX7_readPairs_27 hX _ _ _ (br_t (nI_le (Nat.le_refl _) (by omega)) (C_fill 0 (shX_K18 hX) (by decide) ?_))
          generalize hB : u2 (wr I 18 0 40 (fun _ => (0 : Int32))) 10 7 0 = B
          have b0 : ∀ v, v < 40 → B 18 v = 0 := fun v hv => by
            rw [← hB, u2_a _ _ _ _ (by decide)]
            have := wr_in I 18 0 40 (fun _ => (0 : Int32)) hv
            rw [Nat.zero_add] at this; exact this
          have b1 : ∀ a k, a ≠ 18 → ¬ (a = 10 ∧ k = 7) → B a k = I a k := fun a k a1 a2 => by
            have : ∀ X : sI, u2 X 10 7 0 a k = X a k := fun X => by simp only [u2]; rw [if_neg a2]
            rw [← hB, this, wr_a _ _ _ _ _ a1]
          have b7 : B 10 7 = nI 0 := by rw [← hB, u2_s]; rfl
          have ps := pr_sum (tp := tp) m hv
          have hwh : whB (2 * m) tp = decide (0 < sm (pr tp m) 40) := by
            unfold whB
            rw [em, decide_eq_true c3, decide_eq_true (show 1 ≤ m ∧ m ≤ 20 by omega), hall]; rfl
          have hsl : ∀ i, i ≤ m → sm (fun i => tp (2 * i + 1)) i ≤ 6000 := fun i hi => by
            have : sm (fun i => tp (2 * i + 1)) i ≤ i * 255 := sm_bound (fun k hk => (T (2 * k + 1) (by omega)).2)
            omega
          have key2 := loopN m (fun i => ∀ I', (∀ v, v < 40 → I' 18 v = nI (pr tp i v)) → I' 10 7 = nI (sm (fun i => tp (2 * i + 1)) i) → (∀ a k, a ≠ 18 → ¬ (a = 10 ∧ k = 7) → I' a k = I a k) → Ok G (d + 1) mX7_readPairs 64 [some (.ref 10), some (.ref 1), some (.int (nI (2 * m))), some (.int (nI (2 * i)))] [] I' J P K n (kI P K n F)) ?_ ?_ 0 (by omega)
          · exact key2 B (fun v hv => by rw [b0 v hv]; rfl) b7 b1
          · intro I' p1 p2 p3
            refine bX7_readPairs_64 hX _ _ _ (br_t (nI_le (Nat.le_refl _) (by omega)) ?_)
            have hl := hsl m (Nat.le_refl _)
            have hh := h I' (fun _ => ⟨fun v hv => by rw [em]; exact p1 v hv, by rw [em, ps]; exact p2⟩) p3
            rw [hwh, ps] at hh
            rw [p2]
            by_cases z : 0 < sm (fun i => tp (2 * i + 1)) m
            · rw [decide_eq_true z] at hh; exact br_f (nI_nle z (by omega)) hh
            · rw [decide_eq_false z] at hh
              exact br_t (by rw [show sm (fun i => tp (2 * i + 1)) m = 0 by omega]; decide) hh
          · intro i hi ih I' p1 p2 p3
            have t0 := T (2 * i) (by omega)
            have t1 := T (2 * i + 1) (by omega)
            have v0 := hv i hi
            have o1 : ∀ k, I' 1 k = I 1 k := fun k => p3 1 k (by decide) (by omega)
            refine bX7_readPairs_64 hX _ _ _ (br_f (nI_ge (by omega) (by omega)) ?_)
            rw [shX_K1 hX, nI_1, nI_ck (show 2 * i < 2147483648 by omega), nI_ck (show 2 * i + 1 < 2147483648 by omega), o1, o1, t0.1, t1.1, nI_ck (by omega), u2_a _ _ _ _ (show 1 ≠ 18 by decide), o1, t1.1, p1 _ v0, p2, i_add, i_add]
            have e2 : nI (2 * i) + 2 = nI (2 * (i + 1)) := by rw [nI_p2]; congr 1
            rw [e2]
            refine ⟨rfl, nI_inN (by show 2 * i < 940; omega) (by decide), nI_inN v0 (by decide), rfl, nI_inN (by show 2 * i + 1 < 940; omega) (by decide), nI_inN v0 (by decide), rfl, nI_inN (by show 2 * i + 1 < 940; omega) (by decide), ?_⟩
            refine ih _ (fun v hv => ?_) (u2_s _ _ _ _) (fun a k a1 a2 => ?_)
            · rw [u2_a _ _ _ _ (by decide)]
              have ep : pr tp (i + 1) v = pr tp i v + (if tp (2 * i) = v then tp (2 * i + 1) else 0) := rfl
              rw [ep]
              by_cases e : v = tp (2 * i)
              · rw [if_pos e.symm, e, u2_s]
              · rw [if_neg (Ne.symm e), u2_k _ _ _ _ e, Nat.add_zero]; exact p1 v hv
            · have : ∀ (X : sI) z, u2 X 10 7 z a k = X a k := fun X z => by simp only [u2]; rw [if_neg a2]
              rw [this, u2_a _ _ _ _ a1]; exact p3 a k a1 a2
        · intro i hi ih hv
          have t0 := T (2 * i) (by omega)
          refine bX7_readPairs_27 hX _ _ _ (br_f (nI_ge (by omega) (by omega)) ?_)
          rw [shX_K1 hX, nI_ck (by omega), t0.1]
          refine ⟨rfl, nI_inN (by show 2 * i < 940; omega) (by decide), C_noVintage _ ?_⟩
          have e2 : nI (2 * i) + 2 = nI (2 * (i + 1)) := by rw [nI_p2]; congr 1
          rw [e2]
          by_cases z : tp (2 * i) < 40
          · rw [inB_nI z (by decide)]
            refine br_t rfl (ih (fun k hk => ?_))
            by_cases e : k = i
            · rw [e]; exact z
            · exact hv k (by omega)
          · have e : inB (nI (tp (2 * i))) 40 = false := by
              cases e : inB (nI (tp (2 * i))) 40 with
              | false => rfl
              | true =>
                obtain ⟨k, hk, e2⟩ := inB_t e
                have := (nI_eq (by omega) (by omega)).mp e2
                omega
            rw [e]
            refine br_f (by decide) (no ?_)
            unfold whB
            have ha : allB (fun i => decide (tp (2 * i) < 40)) m = false := by
              cases e3 : allB (fun i => decide (tp (2 * i) < 40)) m with
              | false => rfl
              | true => exact absurd (of_decide_eq_true (allB_t.mp e3 i hi)) z
            rw [em, ha, Bool.and_false, Bool.false_and]
      · refine br_f (nI_ne0 (by omega) (by omega)) (no ?_)
        unfold whB
        rw [decide_eq_false c3]; rfl
theorem C_givesPairs {k x : Nat} {tw : Nat → Nat} (hX : shX P K) (S : sC P K c l) (C : rC I c hd so) (w : wf hd so) (hk : k < hd 1) (hx : x ≤ ltr so k) (h7 : I 10 7 = nI x) (ht : ∀ v, v < 40 → I 18 v = nI (tw v)) (hb : ∀ v, v < 40 → tw v < 1000000) (h : ∀ I', (∀ a j, a ≠ 5 → a ≠ 6 → I' a j = I a j) → F (b01 (allB (eqB so tw x k) 40)) I' J) : ckI G (d + 2) mX7_givesPairs [.ref 10, .ref (c + 2 + k), .ref 4] I J P K n F := by
  have hc := wf_casks w
  have hl := wf_ltr w hk
  have c34 := S.2.2.2.1
  have sk := shr_ok (own := wn so k) (m := 40) hx
  refine bX7_givesPairs_0 hX _ ?_
  rw [h7]
  refine C_share (m := 40) (own := wn so k) hX ((shC_R S.1) k (by omega)).2 (shX_K6 hX) (by decide) (by decide) (by decide) (by decide) (by decide) (by omega) (by omega) (by decide) (fun v hv => C.2.2.2.1 k v hk hv) hx (by show ltr so k ≤ _; omega) (fun I1 g1 g2 => ?_)
  have hf : ∀ a j, a ≠ 5 → a ≠ 6 → I1 a j = I a j := fun a j a1 a2 => g2 a j a2 a1
  have key := loopN 40 (fun j => (∀ v, v < j → eqB so tw x k v = true) → Ok G (d + 2) mX7_givesPairs 17 [some (.ref 10), none, some (.ref 4), some (.int (nI j))] [] I1 J P K n (kI P K n F)) ?_ ?_ 0 (by omega)
  · exact key (fun v hv => by omega)
  · intro hv
    have := h I1 hf
    rw [allB_t.mpr hv] at this
    exact bX7_givesPairs_17 hX _ (br_t (nI_le (b := 40) (Nat.le_refl _) (by decide)) this)
  · intro j hj ih hv
    refine bX7_givesPairs_17 hX _ (br_f (nI_ge (b := 40) hj (by decide)) ⟨nI_inN hj (by decide), nI_inN hj (by decide), ?_⟩)
    have hs := sk.1 j hj
    have hw := wf_wn w hk hj
    rw [nI_ck (by omega), g1 j hj, hf 18 j (by decide) (by decide), ht j hj, i_eq (by omega) (by have := hb j hj; omega), nI_1]
    by_cases z : shr (wn so k) 40 x j = tw j
    · refine br_t z (ih (fun v hv2 => ?_))
      by_cases e : v = j
      · rw [e]; exact decide_eq_true z
      · exact hv v (by omega)
    · have := h I1 hf
      have ha : allB (eqB so tw x k) 40 = false := by
        cases e3 : allB (eqB so tw x k) 40 with
        | false => rfl
        | true => exact absurd (of_decide_eq_true (allB_t.mp e3 j hj)) z
      rw [ha] at this
      exact br_f z this
theorem C_mostAlike {b : Nat → Bool} {v : Nat} (S : sC P K c l) (L : rL I l hd) (C : rC I c hd so) (w : wf hd so) (hv : v < 40) (h : F (nI (lft so b (hd 1) v)) I J) : ckI G (d + 1) mX7_mostAlike [.ref 10, .ref c, .int (bs b (hd 1)), .int (nI v)] I J P K n F := by
  have hc := wf_casks w
  have hbit : ∀ k, k < hd 1 → ((bs b (hd 1) >>> (nI k &&& 31)) &&& 1 = 1 ↔ b k = true) := fun k hk => by
    rw [has_bit _ (show k < 32 by omega), bit_bs b hc (by omega), decide_eq_true hk, Bool.true_and]
  rw [← lft_F] at h
  refine bX7_mostAlike_0 _ _ _ ?_
  have cle : ∀ k r, cnF so b v k r ≤ r := fun k r => by
    have : cnF so b v k r ≤ r * 1 := sm_bound (fun i _ => by split <;> omega)
    omega
  have mle : ∀ j, j ≤ hd 1 → mxN (fun k => if b k then cnF so b v k (hd 1 - k) else 0) j ≤ 20 := fun j hj => mxN_le (fun k hk => by
    split
    · have := cle k (hd 1 - k); omega
    · omega)
  have key := loopN (hd 1) (fun k => Ok G (d + 1) mX7_mostAlike 6 [none, some (.ref c), some (.int (bs b (hd 1))), some (.int (nI v)), some (.int (nI (mxN (fun k => if b k then cnF so b v k (hd 1 - k) else 0) k))), some (.int (nI k)), none, none] [] I J P K n (kI P K n F)) ?_ ?_ 0 (by omega)
  · exact key
  · refine bX7_mostAlike_6 _ _ _ _ _ S.1 ⟨l, S.2.1, S.2.2.1, ?_⟩
    rw [L.1 1 (by decide)]
    exact br_t (nI_le (Nat.le_refl _) (by omega)) h
  · intro k hk ih
    refine bX7_mostAlike_6 _ _ _ _ _ S.1 ⟨l, S.2.1, S.2.2.1, ?_⟩
    rw [L.1 1 (by decide)]
    refine br_f (nI_ge hk (by omega)) ?_
    have m1 := mle k (by omega)
    have fin : ∀ z, z ≤ 20 → z = (if b k then cnF so b v k (hd 1 - k) else 0) → Ok G (d + 1) mX7_mostAlike 6 [none, some (.ref c), some (.int (bs b (hd 1))), some (.int (nI v)), some (.int (if nI (mxN (fun k => if b k then cnF so b v k (hd 1 - k) else 0) k) < nI z then nI z else nI (mxN (fun k => if b k then cnF so b v k (hd 1 - k) else 0) k))), some (.int (nI k + 1)), none, none] [] I J P K n (kI P K n F) := fun z hz ez => by
      have e : (if nI (mxN (fun k => if b k then cnF so b v k (hd 1 - k) else 0) k) < nI z then nI z else nI (mxN (fun k => if b k then cnF so b v k (hd 1 - k) else 0) k)) = nI (mxN (fun k => if b k then cnF so b v k (hd 1 - k) else 0) (k + 1)) := by
        simp only [mxN]
        rw [← ez]
        by_cases q : mxN (fun k => if b k then cnF so b v k (hd 1 - k) else 0) k < z
        · rw [if_pos (nI_lt q (by omega)), if_neg (by omega)]
        · rw [if_neg (nI_nlt (by omega) (by omega)), if_pos (by omega)]
      rw [e, nI_1]
      exact ih
    cases eb : b k with
    | false =>
      refine bX7_mostAlike_25 _ _ _ _ _ _ _ S.1 ⟨l, S.2.1, S.2.2.1, ?_⟩
      rw [L.1 1 (by decide)]
      refine br_f (nI_ge hk (by omega)) (br_f (fun z => by have := (hbit k hk).mp z; rw [eb] at this; cases this) ?_)
      exact fin 0 (by decide) (by rw [eb]; rfl)
    | true =>
      have key2 := loopN (hd 1 - k) (fun r => Ok G (d + 1) mX7_mostAlike 25 [none, some (.ref c), some (.int (bs b (hd 1))), some (.int (nI v)), some (.int (nI (mxN (fun k => if b k then cnF so b v k (hd 1 - k) else 0) k))), some (.int (nI k)), some (.int (nI (cnF so b v k r))), some (.int (nI (k + r)))] [] I J P K n (kI P K n F)) ?_ ?_ 0 (by omega)
      · exact key2
      · refine bX7_mostAlike_25 _ _ _ _ _ _ _ S.1 ⟨l, S.2.1, S.2.2.1, ?_⟩
        rw [L.1 1 (by decide)]
        refine br_t (nI_le (by omega) (by omega)) ?_
        exact fin _ (by have := cle k (hd 1 - k); omega) (by rw [eb]; rfl)
      · intro r hr ih2
        have hkr : k + r < hd 1 := by omega
        refine bX7_mostAlike_25 _ _ _ _ _ _ _ S.1 ⟨l, S.2.1, S.2.2.1, ?_⟩
        rw [L.1 1 (by decide)]
        refine br_f (nI_ge hkr (by omega)) (br_t ((hbit k hk).mpr eb) ?_)
        have st : cnF so b v k (r + 1) = cnF so b v k r + (if b (k + r) && decide (wn so (k + r) v = wn so k v) then 1 else 0) := rfl
        rw [nI_1 (k + r)]
        have w1 := wf_wn w hkr hv
        have w2 := wf_wn w hk hv
        refine ⟨fun z => ⟨nI_inN (by omega) (by decide), nI_inN hv (by decide), nI_inN (by omega) (by decide), nI_inN hv (by decide), ?_⟩, fun z => ?_⟩
        · have e1 := (hbit _ hkr).mp z
          rw [nI_ck (by omega), nI_ck (by omega), nI_ck (by omega), C.2.2.2.1 _ v hkr hv, C.2.2.2.1 k v hk hv, i_eq (by omega) (by omega)]
          refine ⟨fun q => ?_, fun q => ?_⟩
          · rw [e1, decide_eq_true q] at st
            rw [st] at ih2
            rw [nI_1]; exact ih2
          · rw [e1, decide_eq_false q] at st
            rw [st] at ih2
            exact ih2
        · have e1 : b (k + r) = false := by
            cases e : b (k + r) with
            | false => rfl
            | true => exact absurd ((hbit _ hkr).mpr e) z
          rw [e1] at st
          rw [st] at ih2
          exact ih2
theorem C_bestQuestion {b : Nat → Bool} (hX : shX P K) (S : sC P K c l) (L : rL I l hd) (C : rC I c hd so) (w : wf hd so) (h : F (nI (amn (lft so b (hd 1)) 40)) I J) : ckI G (d + 2) mX7_bestQuestion [.ref 10, .ref c, .int (bs b (hd 1))] I J P K n F := by
  have hc := wf_casks w
  have hle : ∀ v, lft so b (hd 1) v ≤ 20 := fun v => Nat.le_trans (lft_le so b (hd 1) v) hc
  refine bX7_bestQuestion_0 _ _ ?_
  have key := loopN 40 (fun j => Ok G (d + 2) mX7_bestQuestion 9 [some (.ref 10), some (.ref c), some (.int (bs b (hd 1))), some (.int (nI (amn (lft so b (hd 1)) j))), some (.int (nI (if j = 0 then 21 else lft so b (hd 1) (amn (lft so b (hd 1)) j)))), some (.int (nI j)), none] [] I J P K n (kI P K n F)) ?_ ?_ 0 (by omega)
  · exact key
  · exact bX7_bestQuestion_9 hX _ _ _ _ _ (br_t (nI_le (b := 40) (Nat.le_refl _) (by decide)) h)
  · intro j hj ih
    refine bX7_bestQuestion_9 hX _ _ _ _ _ (br_f (nI_ge (b := 40) hj (by decide)) (C_mostAlike S L C w hj ?_))
    have l1 := hle j
    have l2 := hle (amn (lft so b (hd 1)) j)
    have l3 : (if j = 0 then 21 else lft so b (hd 1) (amn (lft so b (hd 1)) j)) ≤ 21 := by split <;> omega
    rw [i_le (by omega) (by omega), nI_1]
    rw [if_neg (show ¬ j + 1 = 0 by omega)] at ih
    simp only [amn] at ih
    by_cases j0 : j = 0
    · subst j0
      rw [if_neg (show ¬ lft so b (hd 1) 0 < lft so b (hd 1) (amn (lft so b (hd 1)) 0) from Nat.lt_irrefl _)] at ih
      rw [if_pos rfl]
      exact br_f (by omega) ih
    · rw [if_neg j0]
      by_cases q : lft so b (hd 1) j < lft so b (hd 1) (amn (lft so b (hd 1)) j)
      · rw [if_pos q] at ih
        exact br_f (by omega) ih
      · rw [if_neg q] at ih
        exact br_t (by omega) ih
theorem C_casksOfPairs {x : Nat} {tw : Nat → Nat} (hX : shX P K) (S : sC P K c l) (L : rL I l hd) (C : rC I c hd so) (w : wf hd so) (hx : x < 1000000) (h7 : I 10 7 = nI x) (ht : ∀ v, v < 40 → I 18 v = nI (tw v)) (hb : ∀ v, v < 40 → tw v < 1000000) (h : ∀ I', I' 10 2 = (if bs (sucB so tw x) (hd 1) = 0 then I 10 2 else nI (amn (lft so (sucB so tw x) (hd 1)) 40)) → (∀ a k, a ≠ 5 → a ≠ 6 → ¬ (a = 10 ∧ k = 2) → I' a k = I a k) → F (bs (sucB so tw x) (hd 1)) I' J) : ckI G (d + 3) mX7_casksOfPairs [.ref 10, .ref c, .ref 4] I J P K n F := by
  have hc := wf_casks w
  have c34 := S.2.2.2.1
  have ll := S.2.2.2.2.1
  refine bX7_casksOfPairs_0 _ ?_
  have key := loopN (hd 1) (fun j => ∀ I', (∀ a k, a ≠ 5 → a ≠ 6 → I' a k = I a k) → Ok G (d + 3) mX7_casksOfPairs 5 [some (.ref 10), some (.ref c), some (.ref 4), some (.int (bs (sucB so tw x) j)), some (.int (nI j))] [] I' J P K n (kI P K n F)) ?_ ?_ 0 (by omega)
  · exact key I (fun _ _ _ _ => rfl)
  · intro I' f
    have L' : rL I' l hd := rL_of L (fun a k a1 a2 => f a k (by omega) (by omega))
    have C' : rC I' c hd so := rC_of C (fun a k a1 a2 => f a k (by omega) (by omega)) hc
    refine bX7_casksOfPairs_5 hX _ _ _ S.1 ⟨l, S.2.1, S.2.2.1, ?_⟩
    rw [L'.1 1 (by decide)]
    refine br_t (nI_le (Nat.le_refl _) (by omega)) ?_
    by_cases z : bs (sucB so tw x) (hd 1) = 0
    · exact br_t z (h I' (by rw [if_pos z]; exact f 10 2 (by decide) (by decide)) (fun a k a1 a2 _ => f a k a1 a2))
    · refine br_f z (C_bestQuestion hX S L' C' w ?_)
      refine h _ (by rw [u2_s, if_neg z]) (fun a k a1 a2 a3 => ?_)
      have : ∀ v, u2 I' 10 2 v a k = I' a k := fun v => by simp only [u2]; rw [if_neg a3]
      rw [this]; exact f a k a1 a2
  · intro j hj ih I' f
    have L' : rL I' l hd := rL_of L (fun a k a1 a2 => f a k (by omega) (by omega))
    have C' : rC I' c hd so := rC_of C (fun a k a1 a2 => f a k (by omega) (by omega)) hc
    have hl := wf_ltr w hj
    refine bX7_casksOfPairs_5 hX _ _ _ S.1 ⟨l, S.2.1, S.2.2.1, ?_⟩
    rw [L'.1 1 (by decide)]
    refine br_f (nI_ge hj (by omega)) ⟨nI_inN (by omega) (by decide), ?_⟩
    have e7 : I' 10 7 = nI x := (f 10 7 (by decide) (by decide)).trans h7
    rw [nI_ck (by omega), (C'.2.2.2.2.1 j hj).1, e7, i_lt (by omega) (by omega), nI_1]
    refine ⟨fun q => ?_, fun q => ⟨nI_inN (by omega) (by decide), ?_⟩⟩
    · have e : sucB so tw x j = false := by unfold sucB; rw [decide_eq_false (show ¬ x ≤ ltr so j by omega)]; rfl
      have ih2 := ih I' f
      rw [bs_f e] at ih2
      exact ih2
    · refine C_givesPairs hX S C' w hj (by omega) e7 (fun v hv => (f 18 v (by decide) (by decide)).trans (ht v hv)) hb (fun I1 g1 => ?_)
      have f1 : ∀ a k, a ≠ 5 → a ≠ 6 → I1 a k = I a k := fun a k a1 a2 => (g1 a k a1 a2).trans (f a k a1 a2)
      have es : sucB so tw x j = allB (eqB so tw x j) 40 := by unfold sucB; rw [decide_eq_true (show x ≤ ltr so j by omega)]; rfl
      have ih2 := ih I1 f1
      refine b01n (fun e => ?_) (fun e => ?_)
      · rw [bs_f (es.trans e)] at ih2; exact ih2
      · rw [bs_t (es.trans e)] at ih2; exact ih2
end WhichC
