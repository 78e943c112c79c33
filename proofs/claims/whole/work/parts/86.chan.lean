/-! the class: fractions, chance -/
section Chan
variable {G : gG} {d : Nat} {I : sI} {J : sJ} {P : sP} {K : sK} {n : Nat} {F : Int32 → sI → sJ → Prop} {FV : sI → sJ → Prop} {hd so : Nat → Nat} {c l : Nat} {nx : Int32 → Int32}
theorem C_half8 {a b x : Nat} {w : Int32} (hx : x < 2147483648) (h : ∀ e, e = Nat.gcd b a → Ok G d mX7_half 39 [some (.int (nI x)), some (.int (nI b)), some (.int w), some (.int (nI e)), none, none, none] [] I J P K n (kI P K n F)) : ∀ (f i p q : Nat), q ≤ p → p < 2147483648 → p * q < 2 ^ f → i + f < 100 → Nat.gcd q p = Nat.gcd b a → Ok G d mX7_half 8 [some (.int (nI x)), some (.int (nI b)), some (.int w), some (.int (nI p)), some (.int (nI q)), some (.int (nI i)), none] [] I J P K n (kI P K n F) := by
  have fin : ∀ p q, q = 0 → Nat.gcd q p = Nat.gcd b a → Ok G d mX7_half 39 [some (.int (nI x)), some (.int (nI b)), some (.int w), some (.int (nI p)), none, none, none] [] I J P K n (kI P K n F) := fun p q e1 e2 => by
    subst e1
    rw [Nat.gcd_zero_left] at e2
    exact h p e2
  intro f
  induction f with
  | zero =>
    intro i p q h1 h2 h3 h4 h5
    have hq : q = 0 := by
      rcases Nat.eq_zero_or_pos q with e | e
      · exact e
      · have := Nat.mul_pos (show 0 < p by omega) e; omega
    refine bX7_half_8 _ _ _ _ _ _ (br_f (nI_ge (b := 100) (by omega) (by decide)) (br_t (by rw [hq]; rfl) (fin p q hq h5)))
  | succ f ih =>
    intro i p q h1 h2 h3 h4 h5
    refine bX7_half_8 _ _ _ _ _ _ (br_f (nI_ge (b := 100) (by omega) (by decide)) ?_)
    by_cases hq : q = 0
    · exact br_t (by rw [hq]; rfl) (fin p q hq h5)
    · have hq0 : 0 < q := by omega
      refine br_f (nI_ne0 hq0 (by omega)) ⟨nI_ne0 hq0 (by omega), ?_⟩
      rw [i_rem h2 hq0 (by omega), nI_1]
      have m1 := Nat.mod_lt p hq0
      have m2 : 2 * (p % q) ≤ p := by
        have := Nat.mod_add_div p q
        have : 1 ≤ p / q := (Nat.one_le_div_iff hq0).mpr h1
        have : q * 1 ≤ q * (p / q) := Nat.mul_le_mul_left q this
        omega
      refine ih (i + 1) q (p % q) (by omega) (by omega) ?_ (by omega) ?_
      · have : q * (2 * (p % q)) ≤ q * p := Nat.mul_le_mul_left q m2
        have e1 : q * (2 * (p % q)) = 2 * (q * (p % q)) := by rw [Nat.mul_left_comm]
        have e2 : q * p = p * q := Nat.mul_comm _ _
        have : 2 ^ (f + 1) = 2 * 2 ^ f := by rw [Nat.pow_succ]; omega
        omega
      · rw [← Nat.gcd_rec]; exact h5
theorem C_half {a b : Nat} {w : Int32} (hw : inB w 2 = true) (ha : a < 1048576) (hb : b < 1048576) (h0 : 0 < b) (h : F (frac a b w) I J) : ckI G d mX7_half [.int (nI a), .int (nI b), .int w] I J P K n F := by
  have hg : 0 < Nat.gcd b a := Nat.gcd_pos_of_pos_left a h0
  have hgb : Nat.gcd b a ≤ b := Nat.gcd_le_left a h0
  have fin : ∀ e, e = Nat.gcd b a → Ok G d mX7_half 39 [some (.int (nI a)), some (.int (nI b)), some (.int w), some (.int (nI e)), none, none, none] [] I J P K n (kI P K n F) := fun e he => by
    subst he
    obtain ⟨j, hj, ew, hz⟩ := inB2 hw
    unfold frac at h
    refine bX7_half_39 _ _ _ _ ⟨fun q => ?_, fun q => ?_⟩
    · rw [if_pos q] at h
      refine br_f (nI_ne0 hg (by omega)) ⟨nI_ne0 hg (by omega), ?_⟩
      rw [i_div (by omega) hg (by omega)]; exact h
    · rw [if_neg q] at h
      refine br_f (nI_ne0 hg (by omega)) ⟨nI_ne0 hg (by omega), ?_⟩
      rw [i_div (by omega) hg (by omega)]; exact h
  refine bX7_half_0 _ _ _ ?_
  have mul : ∀ p q, p < 1048576 → q < 1048576 → p * q < 2 ^ 41 := fun p q hp hq => by
    have : p * q ≤ 1048576 * 1048576 := Nat.mul_le_mul (by omega) (by omega)
    have : (1048576 * 1048576 : Nat) < 2 ^ 41 := by decide
    omega
  by_cases hab : b ≤ a
  · exact C_half8 (by omega) fin 41 0 a b hab (by omega) (mul a b ha hb) (by decide) rfl
  · refine bX7_half_8 _ _ _ _ _ _ (br_f (by decide) (br_f (nI_ne0 h0 (by omega)) ⟨nI_ne0 h0 (by omega), ?_⟩))
    rw [i_rem (by omega) h0 (by omega), Nat.mod_eq_of_lt (show a < b by omega)]
    exact C_half8 (by omega) fin 41 1 b a (by omega) (by omega) (mul b a hb ha) (by decide) (Nat.gcd_comm a b)
theorem C_pick {s y : Int32} {m : Nat} (hy : y = nI m) (hm : 0 < m) (hm2 : m < 2147483648) (hn : ∀ s : Int32, nx s = s * 1103515245 + 12345) (hX : shX P K) (S : I 21 0 = s) (h : F (nI (pv (nx s) m)) (u2 I 21 0 (nx s)) J) : ckI G d mX3_pick [.ref 21, .int y] I J P K n F := by
  refine bX3_pick_0 hX _ ?_
  rw [S, ← hn, hy, sh8]
  have hlt : (nx s).toUInt32.toNat / 256 < 2147483648 := by
    have := (nx s).toUInt32.toNat_lt
    omega
  refine br_t (nI_lt (a := 0) hm hm2) ⟨nI_ne0 hm hm2, ?_⟩
  rw [i_rem hlt hm hm2]
  exact h
def frCh (c : Nat) (I I' : sI) : Prop := ∀ a k, ¬ dT c a → a ≠ 21 → I' a k = I a k
theorem frCh_rf (c : Nat) (I : sI) : frCh c I I := fun _ _ _ _ => rfl
theorem frCh_tr {c : Nat} {I I' I2 : sI} (h : frCh c I I') (h2 : frCh c I' I2) : frCh c I I2 := fun a k q r => (h2 a k q r).trans (h a k q r)
theorem frCh_C {c : Nat} {I I' : sI} (h : frC c I I') : frCh c I I' := fun a k q _ => h a k q
theorem frCh_u (c : Nat) (I : sI) (v : Int32) : frCh c I (u2 I 21 0 v) := fun a k _ q => u2_a _ _ _ _ q
theorem rL_frCh {I I' : sI} (S : sC P K c l) (L : rL I l hd) (f : frCh c I I') : rL I' l hd := rL_of L (fun a k h1 h2 => f a k (by have := S.2.2.2; unfold dT; omega) (by have := S.2.2.2; omega))
theorem rC_21 {I : sI} (S : sC P K c l) (C : rC I c hd so) (w : wf hd so) (v : Int32) : rC (u2 I 21 0 v) c hd so := rC_of C (fun a k h1 h2 => u2_a _ _ _ _ (by have := S.2.2.2.1; omega)) (wf_casks w)
theorem C_tryAct {s : Int32} (hn : ∀ s : Int32, nx s = s * 1103515245 + 12345) (hX : shX P K) (S : sC P K c l) (L : rL I l hd) (C : rC I c hd so) (w : wf hd so) (h0 : 0 < hd 0) (Sd : I 21 0 = s) (h : ∀ I', I' 21 0 = (pk1 nx hd (s, so)).1 → rC I' c hd (pk1 nx hd (s, so)).2 → frCh c I I' → FV I' J) : ckV G (d + 5) mX3_tryAct [.ref 21, .ref c, .ref 4] I J P K n FV := by
  have hc := wf_casks w
  have hc0 := hd1_pos w h0
  have hs5 := w.1
  have c34 := S.2.2.2.1
  have n21 : ¬ dT c 21 := by unfold dT; omega
  refine bX3_tryAct_0 hX _ S.1 (C_pick (m := 6) rfl (by decide) (by decide) hn hX Sd ?_)
  have p6 := pv_lt (nx s) (m := 6) (by decide)
  simp only [pk1] at h
  have L1 : ∀ v, rL (u2 I 21 0 v) l hd := fun v => rL_frCh S L (frCh_u c I v)
  have lv : ∀ (v : Int32) k, u2 I 21 0 v l k = I l k := fun v k => u2_a _ _ _ _ (by have := S.2.2.2; omega)
  by_cases e2 : pv (nx s) 6 < 2
  · rw [if_pos e2] at h
    refine br_f (nI_nlt (a := 1) (by omega) (by decide)) ⟨l, S.2.1, S.2.2.1, ?_⟩
    refine C_pick (m := hd 1) ((L1 _).1 1 (by decide)) hc0 (by omega) hn hX (u2_s _ _ _ _) (C_pick (m := 40) rfl (by decide) (by decide) hn hX (u2_s _ _ _ _) ?_)
    rw [nI_1]
    have q1 := pv_lt (nx (nx s)) hc0
    have q2 := pv_lt (nx (nx (nx s))) (m := 40) (by decide)
    have f1 : frCh c I (u2 (u2 (u2 I 21 0 (nx s)) 21 0 (nx (nx s))) 21 0 (nx (nx (nx s)))) := frCh_tr (frCh_tr (frCh_u c I _) (frCh_u c _ _)) (frCh_u c _ _)
    refine C_tryDraw hX S (rL_frCh S L f1) (rC_21 S (rC_21 S (rC_21 S C w _) w _) w _) w q1 (by omega) (fun I' C' f' => h I' ?_ C' (frCh_tr f1 (frCh_C f')))
    rw [f' 21 0 n21, u2_s]
  · rw [if_neg e2] at h
    refine br_t (nI_lt (a := 1) (by omega) (by omega)) ?_
    by_cases e3 : pv (nx s) 6 = 2
    · rw [if_pos e3] at h
      refine br_t (by rw [e3]; rfl) ⟨l, S.2.1, S.2.2.1, ?_⟩
      refine C_pick (m := hd 0) ((L1 _).1 0 (by decide)) h0 (by omega) hn hX (u2_s _ _ _ _) ?_
      have q1 := pv_lt (nx (nx s)) h0
      have f1 : frCh c I (u2 (u2 I 21 0 (nx s)) 21 0 (nx (nx s))) := frCh_tr (frCh_u c I _) (frCh_u c _ _)
      refine C_tryRun hX S (rL_frCh S L f1) (rC_21 S (rC_21 S C w _) w _) w q1 (fun I' C' f' => h I' ?_ C' (frCh_tr f1 (frCh_C f')))
      rw [f' 21 0 n21, u2_s]
    · rw [if_neg e3] at h
      refine br_f (fun z => e3 ((nI_eq (b := 2) (by omega) (by decide)).mp z)) ?_
      by_cases e4 : pv (nx s) 6 = 3
      · rw [if_pos e4] at h
        refine br_t (by rw [e4]; rfl) ?_
        refine C_tryTop hX S (L1 _) (rC_21 S C w _) w (fun I' C' f' => h I' ?_ C' (frCh_tr (frCh_u c I _) (frCh_C f')))
        rw [f' 21 0 n21, u2_s]
      · rw [if_neg e4] at h
        refine br_f (fun z => e4 ((nI_eq (b := 3) (by omega) (by decide)).mp z)) ?_
        by_cases e5 : pv (nx s) 6 = 4
        · rw [if_pos e5] at h
          refine br_t (by rw [e5]; rfl) ⟨l, S.2.1, S.2.2.1, ?_⟩
          refine C_pick (m := hd 1) ((L1 _).1 1 (by decide)) hc0 (by omega) hn hX (u2_s _ _ _ _) ⟨l, S.2.1, S.2.2.1, ?_⟩
          have f0 : frCh c I (u2 (u2 I 21 0 (nx s)) 21 0 (nx (nx s))) := frCh_tr (frCh_u c I _) (frCh_u c _ _)
          refine C_pick (m := hd 1) ((rL_frCh S L f0).1 1 (by decide)) hc0 (by omega) hn hX (u2_s _ _ _ _) (C_pick (m := 20) rfl (by decide) (by decide) hn hX (u2_s _ _ _ _) ?_)
          rw [nI_1]
          have q1 := pv_lt (nx (nx s)) hc0
          have q2 := pv_lt (nx (nx (nx s))) hc0
          have q3 := pv_lt (nx (nx (nx (nx s)))) (m := 20) (by decide)
          have f1 := frCh_tr (frCh_tr f0 (frCh_u c _ (nx (nx (nx s))))) (frCh_u c _ (nx (nx (nx (nx s)))))
          refine C_tryTip hX S (rL_frCh S L f1) (rC_21 S (rC_21 S (rC_21 S (rC_21 S C w _) w _) w _) w _) w q1 q2 (by omega) (fun I' C' f' => h I' ?_ C' (frCh_tr f1 (frCh_C f')))
          rw [f' 21 0 n21, u2_s]
        · rw [if_neg e5] at h
          exact br_f (fun z => e5 ((nI_eq (b := 4) (by omega) (by decide)).mp z)) (h _ (u2_s _ _ _ _) (rC_21 S C w _) (frCh_u c I _))
theorem C_chYears {m : Nat} (x : Int32) (hm : m < 2147483648) (hn : ∀ s : Int32, nx s = s * 1103515245 + 12345) (hX : shX P K) (S : sC P K c l) (L : rL I l hd) (C : rC I c hd so) (w : wf hd so) (h : ∀ I', rC I' c hd (pkYs nx hd (if m ≤ 39 - so 0 then m else 39 - so 0) (x, so)).2 → frCh c I I' → F (nI (if m ≤ 39 - so 0 then m else 39 - so 0)) I' J) : ckI G (d + 6) mX3_letYears [.ref 21, .ref c, .ref 4, .int (nI m), .int x] I J P K n F := by
  have hy := w.2.2.2.2.2.2.1
  have c34 := S.2.2.2.1
  have n21 : ¬ dT c 21 := by unfold dT; omega
  generalize hg : (if m ≤ 39 - so 0 then m else 39 - so 0) = g at h
  have hg1 : g ≤ m ∧ so 0 + g ≤ 39 ∧ (g = m ∨ so 0 + g = 39) := by rw [← hg]; split <;> omega
  have inv := pkYs_inv (nx := nx) (p := (x, so)) w hg1.2.1
  refine bX3_letYears_0 hX _ _ _ ?_
  have key := loopN g (fun j => ∀ I', I' 21 0 = (pkYs nx hd j (x, so)).1 → rC I' c hd (pkYs nx hd j (x, so)).2 → frCh c I I' → Ok G (d + 6) mX3_letYears 9 [some (.ref 21), some (.ref c), some (.ref 4), some (.int (nI m)), none, some (.int (nI j)), none] [] I' J P K n (kI P K n F)) ?_ ?_ 0 (by omega)
  · exact key _ (u2_s _ _ _ _) (rC_21 S C w _) (frCh_u c I _)
  · intro I' s' C' f
    refine bX3_letYears_9 _ _ _ S.1 ?_
    have y' : (pkYs nx hd g (x, so)).2 0 = so 0 + g := (inv g (Nat.le_refl _)).2
    rw [C'.1, y', i_le (by omega) (by omega)]
    refine ⟨fun _ => h I' C' f, fun q => br_t (nI_le (a := 39) (by omega) (by omega)) (h I' C' f)⟩
  · intro j hj ih I' s' C' f
    have wj := (inv j (by omega))
    have y' : (pkYs nx hd j (x, so)).2 0 = so 0 + j := wj.2
    refine bX3_letYears_9 _ _ _ S.1 ?_
    rw [C'.1, y']
    refine br_f (nI_ge (by omega) (by omega)) (br_f (nI_ge (b := 39) (by omega) (by decide)) ?_)
    have hst : pkYs nx hd (j + 1) (x, so) = pkY nx hd (pkYs nx hd j (x, so)) := rfl
    rw [hst] at ih
    generalize hp : pkYs nx hd j (x, so) = p at *
    have fin : ∀ (q : Int32 × (Nat → Nat)) (I2 : sI), wf hd q.2 → q.2 0 = p.2 0 → pkY nx hd p = (q.1, aYear hd q.2) → I2 21 0 = q.1 → rC I2 c hd q.2 → frCh c I I2 → ckI G (d + 5) mX2_letYears [.ref 4, .ref c, .int 1] I2 J P K n (fun v4 I2 J3 => Ok G (d + 6) mX3_letYears 9 [some (.ref 21), some (.ref c), some (.ref 4), some (.int (nI m)), none, some (.int (nI j + 1)), none] [] I2 J3 P K n (kI P K n F)) := by
      intro q I2 wq yq eq s2 C2 f2
      refine C_letYears (m := 1) (by decide) hX S (rL_frCh S L f2) C2 wq (fun I3 C3 f3 => ?_)
      rw [if_pos (show 1 ≤ 39 - q.2 0 by omega)] at C3
      rw [nI_1]
      refine ih I3 ?_ ?_ (frCh_tr f2 (frCh_C f3))
      · rw [eq, f3 21 0 n21]; exact s2
      · rw [eq]; exact C3
    by_cases z : hd 0 = 0
    · have ep : pkY nx hd p = (p.1, aYear hd p.2) := by unfold pkY; simp only; rw [if_pos z]
      have L' := rL_frCh S L f
      refine bX3_letYears_27 hX _ _ _ _ S.1 (br_f (by decide) ⟨l, S.2.1, S.2.2.1, ?_⟩)
      rw [L'.1 0 (by decide), z]
      exact br_t (by decide) (fin p I' wj.1 rfl ep s' C' f)
    · have ep : pkY nx hd p = ((it (fun _ p => pk1 nx hd p) 4 p).1, aYear hd (it (fun _ p => pk1 nx hd p) 4 p).2) := by unfold pkY; simp only; rw [if_neg z]
      have i4 := pk4_inv (nx := nx) wj.1 (show 0 < hd 0 by omega)
      have key2 := loopN 4 (fun i => ∀ I2, I2 21 0 = (it (fun _ p => pk1 nx hd p) i p).1 → rC I2 c hd (it (fun _ p => pk1 nx hd p) i p).2 → frCh c I I2 → Ok G (d + 6) mX3_letYears 27 [some (.ref 21), some (.ref c), some (.ref 4), some (.int (nI m)), none, some (.int (nI j)), some (.int (nI i))] [] I2 J P K n (kI P K n F)) ?_ ?_ 0 (by omega)
      · exact key2 I' s' C' f
      · intro I2 s2 C2 f2
        exact bX3_letYears_27 hX _ _ _ _ S.1 (br_t (nI_le (b := 4) (Nat.le_refl _) (by decide)) (fin _ I2 (i4 4 (Nat.le_refl _)).1 (i4 4 (Nat.le_refl _)).2 ep s2 C2 f2))
      · intro i hi ih2 I2 s2 C2 f2
        have L2 := rL_frCh S L f2
        have hs5 := w.1
        refine bX3_letYears_27 hX _ _ _ _ S.1 (br_f (nI_ge (b := 4) hi (by decide)) ⟨l, S.2.1, S.2.2.1, ?_⟩)
        rw [L2.1 0 (by decide)]
        refine br_f (nI_nle (by omega) (by omega)) (C_tryAct hn hX S L2 C2 (i4 i (by omega)).1 (by omega) s2 (fun I3 s3 C3 f3 => ?_))
        rw [nI_1]
        exact ih2 I3 s3 C3 (frCh_tr f2 f3)
end Chan
