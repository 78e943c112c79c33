/-! the class: the reader's tokens -/
def cL (tp : Nat → Nat) (q : Nat) : Nat → Nat
  | 0 => 0
  | m + 1 => cL tp q m + (if isL (tp (q + m)) then 1 else 0)
theorem cL_le (tp : Nat → Nat) (q m : Nat) : cL tp q m ≤ m := by
  induction m with
  | zero => exact Nat.le_refl 0
  | succ m ih => simp only [cL]; split <;> omega
theorem cL_all {tp : Nat → Nat} {q m : Nat} : cL tp q m = m ↔ ∀ i, i < m → isL (tp (q + i)) = true := by
  induction m with
  | zero => exact ⟨fun _ i hi => absurd hi (Nat.not_lt_zero i), fun _ => rfl⟩
  | succ m ih =>
    have hle := cL_le tp q m
    simp only [cL]
    constructor
    · intro h i hi
      by_cases e : isL (tp (q + m)) = true
      · rw [if_pos e] at h
        by_cases q2 : i = m
        · rw [q2]; exact e
        · exact ih.mp (by omega) i (by omega)
      · rw [if_neg e] at h; omega
    · intro h
      rw [if_pos (h m (by omega)), ih.mpr (fun i hi => h i (by omega))]
theorem cL_none {tp : Nat → Nat} {q m : Nat} : cL tp q m = 0 ↔ ∀ i, i < m → isL (tp (q + i)) = false := by
  induction m with
  | zero => exact ⟨fun _ i hi => absurd hi (Nat.not_lt_zero i), fun _ => rfl⟩
  | succ m ih =>
    simp only [cL]
    constructor
    · intro h i hi
      by_cases e : isL (tp (q + m)) = true
      · rw [if_pos e] at h; omega
      · rw [if_neg e] at h
        by_cases q2 : i = m
        · rw [q2]; exact Bool.eq_false_iff.mpr e
        · exact ih.mp (by omega) i (by omega)
    · intro h
      rw [if_neg (by rw [h m (by omega)]; decide), ih.mpr (fun i hi => h i (by omega))]
theorem tokR_k {tp : Nat → Nat} {q m : Nat} (h0 : 0 < m) : tokR tp q (q + m) = if cL tp q m = m ∧ m ≤ 7 then (2, q, q + m, 0, lets tp q m) else if cL tp q m = 0 ∧ m ≤ 3 then (3, q, q + m, dval tp q m, []) else (1, q, q + m, 0, []) := by
  unfold tokR
  rw [show q + m - q = m by omega]
  have hA : allB (sameB tp q) m = true ↔ ∀ i, i < m → isL (tp (q + i)) = isL (tp q) := by
    rw [allB_t]
    exact ⟨fun h i hi => eq_of_beq (h i hi), fun h i hi => by show (isL (tp (q + i)) == isL (tp q)) = true; rw [h i hi]; exact beq_self_eq_true _⟩
  rcases Bool.eq_false_or_eq_true (isL (tp q)) with e | e
  · rw [e] at hA ⊢
    have h1 : allB (sameB tp q) m = true ↔ cL tp q m = m := by rw [hA, cL_all]
    have h2 : ¬ cL tp q m = 0 := fun z => by
      have := cL_none.mp z 0 h0
      rw [Nat.add_zero, e] at this
      cases this
    by_cases c1 : cL tp q m = m
    · by_cases c2 : m ≤ 7
      · rw [if_neg (by rw [h1.mpr c1]; simp; omega), if_pos rfl, if_pos ⟨c1, c2⟩]
      · rw [if_pos (Or.inr (by simp; omega)), if_neg (fun z => c2 z.2), if_neg (fun z => h2 z.1)]
    · have c3 : allB (sameB tp q) m = false := Bool.eq_false_iff.mpr (fun z => c1 (h1.mp z))
      rw [if_pos (Or.inl c3), if_neg (fun z => c1 z.1), if_neg (fun z => h2 z.1)]
  · rw [e] at hA ⊢
    have h1 : allB (sameB tp q) m = true ↔ cL tp q m = 0 := by rw [hA, cL_none]
    have h2 : ¬ cL tp q m = m := fun z => by
      have := cL_all.mp z 0 h0
      rw [Nat.add_zero, e] at this
      cases this
    by_cases c1 : cL tp q m = 0
    · by_cases c2 : m ≤ 3
      · rw [if_neg (by rw [h1.mpr c1]; simp; omega), if_neg (by decide), if_neg (fun z => h2 z.1), if_pos ⟨c1, c2⟩]
      · rw [if_pos (Or.inr (by simp; omega)), if_neg (fun z => h2 z.1), if_neg (fun z => c2 z.2)]
    · have c3 : allB (sameB tp q) m = false := Bool.eq_false_iff.mpr (fun z => c1 (h1.mp z))
      rw [if_pos (Or.inl c3), if_neg (fun z => h2 z.1), if_neg (fun z => c1 z.1)]
theorem rln_0 {tp : Nat → Nat} {sz q : Nat} (hq : q < sz) (h : rln tp sz (sz - q) q = q) : isL (tp q) = false ∧ isD (tp q) = false := by
  obtain ⟨f, hf⟩ : ∃ f, sz - q = f + 1 := ⟨sz - q - 1, by omega⟩
  rw [hf] at h
  simp only [rln] at h
  split at h
  · have := (rln_ok tp sz f (q + 1) (by omega)).1
    omega
  · rename_i g
    cases e1 : isL (tp q) <;> cases e2 : isD (tp q)
    · exact ⟨rfl, rfl⟩
    all_goals exact absurd ⟨hq, by rw [e1, e2]; rfl⟩ g
/-! relations -/
def kd6 (t : tokT) : Int32 := if t.1 = 4 then nI t.2.2.2.1 else nI t.1
def rR6 (I : sI) (J : sJ) (t : tokT) : Prop := I 2 3 = nI t.2.2.1 ∧ I 2 4 = nI t.2.1 ∧ I 2 5 = kd6 t ∧ (t.1 = 3 → I 2 6 = nI t.2.2.2.1) ∧ (t.1 = 2 → J 2 7 = lN (vB 32 t.2.2.2.2 0)) ∧ I 2 8 = oWh (wI t)
def rT6 (I : sI) (sz lm : Nat) (tp : Nat → Nat) : Prop := I 2 1 = nI sz ∧ I 2 2 = nI lm ∧ sz ≤ 940 ∧ lm ≤ 1000 ∧ ∀ j, j < sz → I 1 j = nI (tp j) ∧ tp j ≤ 255
def fr6 (I I' : sI) (J J' : sJ) : Prop := (∀ c k, ¬ (c = 2 ∧ 3 ≤ k ∧ k ≤ 8) → I' c k = I c k) ∧ ∀ c k, ¬ (c = 2 ∧ k = 7) → J' c k = J c k
theorem fr6_rf (I : sI) (J : sJ) : fr6 I I J J := ⟨fun _ _ _ => rfl, fun _ _ _ => rfl⟩
theorem fr6_tr {I I' I2 : sI} {J J' J2 : sJ} (h : fr6 I I' J J') (h2 : fr6 I' I2 J' J2) : fr6 I I2 J J2 := ⟨fun c k a => (h2.1 c k a).trans (h.1 c k a), fun c k a => (h2.2 c k a).trans (h.2 c k a)⟩
theorem fr6_u (I : sI) (J : sJ) {k : Nat} (v : Int32) (h : 3 ≤ k ∧ k ≤ 8) : fr6 I (u2 I 2 k v) J J := ⟨fun c j a => by simp only [u2]; rw [if_neg (by omega)], fun _ _ _ => rfl⟩
theorem rT6_fr {I I' : sI} {J J' : sJ} {sz lm : Nat} {tp : Nat → Nat} (S : rT6 I sz lm tp) (f : fr6 I I' J J') : rT6 I' sz lm tp := ⟨(f.1 2 1 (by omega)).trans S.1, (f.1 2 2 (by omega)).trans S.2.1, S.2.2.1, S.2.2.2.1, fun j hj => ⟨(f.1 1 j (by omega)).trans (S.2.2.2.2 j hj).1, (S.2.2.2.2 j hj).2⟩⟩
def rn6 (I : sI) (J : sJ) (tp : Nat → Nat) (q m : Nat) : Prop := I 2 3 = nI (q + m) ∧ (cL tp q m = m → J 2 7 = lN (vB 32 (lets tp q m) 0)) ∧ (cL tp q m = 0 → I 2 6 = nI (dval tp q m))
/-- what reading a run may change -/
def frN (I I' : sI) (J J' : sJ) : Prop := (∀ c k, ¬ (c = 2 ∧ (k = 3 ∨ k = 5 ∨ k = 6)) → I' c k = I c k) ∧ ∀ c k, ¬ (c = 2 ∧ k = 7) → J' c k = J c k
theorem frN_rf (I : sI) (J : sJ) : frN I I J J := ⟨fun _ _ _ => rfl, fun _ _ _ => rfl⟩
theorem frN_tr {I I' I2 : sI} {J J' J2 : sJ} (h : frN I I' J J') (h2 : frN I' I2 J' J2) : frN I I2 J J2 := ⟨fun c k a => (h2.1 c k a).trans (h.1 c k a), fun c k a => (h2.2 c k a).trans (h.2 c k a)⟩
theorem frN_u (I : sI) (J : sJ) {k : Nat} (v : Int32) (h : k = 3 ∨ k = 5 ∨ k = 6) : frN I (u2 I 2 k v) J J := ⟨fun c j a => by simp only [u2]; rw [if_neg (by omega)], fun _ _ _ => rfl⟩
theorem frN_j (I : sI) (J : sJ) (v : Int64) : frN I I J (u2 J 2 7 v) := ⟨fun _ _ _ => rfl, fun c j a => by simp only [u2]; rw [if_neg (by omega)]⟩
theorem frN_6 {I I' : sI} {J J' : sJ} (h : frN I I' J J') : fr6 I I' J J' := ⟨fun c k a => h.1 c k (by omega), fun c k a => h.2 c k a⟩
theorem lN32 {v c : Nat} (hc : 97 ≤ c) (hc2 : c < 1000) : lN v * 32 + (nI c).toInt64 - 97 + 1 = lN (32 * v + (c - 96)) := by
  rw [nI_l (by omega)]
  show lN v * lN 32 + lN c - lN 97 + lN 1 = _
  rw [lN_mul, lN_add, lN_sub (by omega), lN_add]
  congr 1
  omega
theorem nIx10 {v c : Nat} (hc : 48 ≤ c) : nI v * 10 + nI c - 48 = nI (10 * v + (c - 48)) := by
  show nI v * nI 10 + nI c - nI 48 = _
  rw [i_mul, i_add, i_sub (by omega)]
  congr 1
  omega
def kR (tp : Nat → Nat) (q m : Nat) : Nat := if cL tp q m = m ∧ m ≤ 7 then 2 else if cL tp q m = 0 ∧ m ≤ 3 then 3 else 1
section Read6
variable {G : gG} {d : Nat} {I : sI} {J : sJ} {P : sP} {K : sK} {n : Nat} {F : Int32 → sI → sJ → Prop} {FV : sI → sJ → Prop} {sz lm : Nat} {tp : Nat → Nat} {t : tokT}
theorem C_run {q : Nat} (hX : shX P K) (hP : P 2 0 = some 1) : ∀ (f m : Nat) (I : sI) (J : sJ), q + m + f = sz → rT6 I sz lm tp → rn6 I J tp q m → (∀ m' I' J', q + m' = rln tp sz f (q + m) → rn6 I' J' tp q m' → frN I I' J J' → Ok G d mX6_readRun 118 [some (.ref 2), some (.int (nI (cL tp q m'))), some (.int (nI (m' - cL tp q m'))), none] [] I' J' P K n (kV P K n FV)) → Ok G d mX6_readRun 14 [some (.ref 2), some (.int (nI (cL tp q m))), some (.int (nI (m - cL tp q m))), none] [] I J P K n (kV P K n FV) := by
  intro f
  induction f with
  | zero =>
    intro m I J hf S B h
    have hsz := S.2.2.1
    refine bX6_readRun_14 hX hP _ _ ?_
    rw [S.1, B.1]
    exact br_t (nI_le (by omega) (by omega)) (h m I J rfl B (frN_rf I J))
  | succ f ih =>
    intro m I J hf S B h
    have hsz := S.2.2.1
    have hle := cL_le tp q m
    have ht := S.2.2.2.2 (q + m) (by omega)
    simp only [rln] at h
    by_cases l : isL (tp (q + m)) = true
    · have l' := l
      simp only [isL, Bool.and_eq_true, decide_eq_true_eq] at l'
      rw [if_pos ⟨by omega, by rw [l]; rfl⟩] at h
      refine bX6_readRun_14 hX hP _ _ ?_
      rw [S.1, B.1]
      refine br_f (nI_ge (by omega) (by omega)) ?_
      rw [nI_ck (by omega), ht.1]
      refine ⟨nI_inN (by omega) (by decide), ?_⟩
      refine br_f (nI_nlt (b := 97) l'.1 (by omega)) (br_f (nI_nlt (a := 122) l'.2 (by decide)) ?_)
      have c1 : cL tp q (m + 1) = cL tp q m + 1 := by simp only [cL]; rw [if_pos l]
      have e1 : nI (cL tp q m) + 1 = nI (cL tp q (m + 1)) := by rw [c1, nI_1]
      have e2 : m - cL tp q m = m + 1 - cL tp q (m + 1) := by omega
      rw [e1, e2, nI_1]
      have fr : frN I (u2 I 2 3 (nI (q + m + 1))) J (u2 J 2 7 (J 2 7 * 32 + (nI (tp (q + m))).toInt64 - 97 + 1)) := frN_tr (frN_u I J _ (Or.inl rfl)) (frN_j _ _ _)
      refine ih (m + 1) _ _ (by omega) (rT6_fr S (frN_6 fr)) ⟨u2_s _ _ _ _, fun z => ?_, fun z => by omega⟩ (fun m' I' J' g1 g2 g3 => h m' I' J' g1 g2 (frN_tr fr g3))
      rw [u2_s, B.2.1 (by omega), lN32 l'.1 (by omega)]
      simp only [lets]
      rw [vB_snoc]
    · have cl : cL tp q (m + 1) = cL tp q m := by simp only [cL]; rw [if_neg l]; rfl
      have k74 : Ok G d mX6_readRun 74 [some (.ref 2), some (.int (nI (cL tp q m))), some (.int (nI (m - cL tp q m))), some (.int (nI (tp (q + m))))] [] I J P K n (kV P K n FV) := by
        refine bX6_readRun_74 hX _ _ _ ?_
        by_cases dg : isD (tp (q + m)) = true
        · have d' := dg
          simp only [isD, Bool.and_eq_true, decide_eq_true_eq] at d'
          rw [if_pos ⟨by omega, by rw [dg]; exact Bool.or_true _⟩] at h
          refine br_f (nI_nlt (b := 48) d'.1 (by omega)) (br_f (nI_nlt (a := 57) d'.2 (by decide)) ?_)
          have e2 : nI (m - cL tp q m) + 1 = nI (m + 1 - cL tp q (m + 1)) := by rw [nI_1, cl]; congr 1; omega
          rw [e2, B.1, nI_1, ← cl]
          have fr : frN I (u2 (u2 I 2 6 (I 2 6 * 10 + nI (tp (q + m)) - 48)) 2 3 (nI (q + m + 1))) J J := frN_tr (frN_u I J _ (Or.inr (Or.inr rfl))) (frN_u _ J _ (Or.inl rfl))
          refine ih (m + 1) _ _ (by omega) (rT6_fr S (frN_6 fr)) ⟨u2_s _ _ _ _, fun z => by omega, fun z => ?_⟩ (fun m' I' J' g1 g2 g3 => h m' I' J' g1 g2 (frN_tr fr g3))
          rw [u2_k _ _ _ _ (by decide), u2_s, B.2.2 (by omega), nIx10 d'.1]
          rfl
        · rw [if_neg (fun z => by
            cases e1 : isL (tp (q + m)) with
            | true => exact l e1
            | false =>
              rw [e1, Bool.false_or] at z
              exact dg z.2)] at h
          have g := h m I J rfl B (frN_rf I J)
          by_cases q48 : tp (q + m) < 48
          · exact br_t (nI_lt (b := 48) q48 (by decide)) g
          · refine br_f (nI_nlt (b := 48) (by omega) (by omega)) (br_t (nI_lt (a := 57) ?_ (by omega)) g)
            refine Nat.not_le.mp fun z => dg ?_
            simp only [isD, Bool.and_eq_true, decide_eq_true_eq]
            omega
      refine bX6_readRun_14 hX hP _ _ ?_
      rw [S.1, B.1]
      refine br_f (nI_ge (by omega) (by omega)) ?_
      rw [nI_ck (by omega), ht.1]
      refine ⟨nI_inN (by omega) (by decide), ?_⟩
      by_cases q97 : tp (q + m) < 97
      · exact br_t (nI_lt (b := 97) q97 (by decide)) k74
      · refine br_f (nI_nlt (b := 97) (by omega) (by omega)) (br_t (nI_lt (a := 122) ?_ (by omega)) k74)
        refine Nat.not_le.mp fun z => l ?_
        simp only [isL, Bool.and_eq_true, decide_eq_true_eq]
        omega
theorem C_readRun {q : Nat} (hX : shX P K) (hP : P 2 0 = some 1) (S : rT6 I sz lm tp) (hq : q ≤ sz) (ha : I 2 3 = nI q) (h : ∀ m I' J', q + m = rln tp sz (sz - q) q → rn6 I' J' tp q m → I' 2 5 = nI (kR tp q m) → frN I I' J J' → FV I' J') : ckV G d mX6_readRun [.ref 2] I J P K n FV := by
  refine bX6_readRun_0 hX ?_
  have f0 : frN I (u2 I 2 6 0) J (u2 J 2 7 0) := frN_tr (frN_u I J 0 (Or.inr (Or.inr rfl))) (frN_j _ _ _)
  refine C_run (q := q) (sz := sz) (lm := lm) (tp := tp) hX hP (sz - q) 0 (u2 I 2 6 0) (u2 J 2 7 0) (by omega) (rT6_fr S (frN_6 f0)) ⟨by rw [u2_k _ _ _ _ (by decide)]; exact ha, fun _ => u2_s _ _ _ _, fun _ => u2_s _ _ _ _⟩ (fun m I' J' g1 g2 g3 => ?_)
  rw [Nat.add_zero] at g1
  have hm := (rln_ok tp sz (sz - q) q hq).2.1
  have hle := cL_le tp q m
  have hsz := S.2.2.1
  have e1 : ∀ v : Int32, rn6 (u2 I' 2 5 v) J' tp q m := fun v => ⟨by rw [u2_k _ _ _ _ (by decide)]; exact g2.1, g2.2.1, fun z => by rw [u2_k _ _ _ _ (by decide)]; exact g2.2.2 z⟩
  have e2 : ∀ v w : Int32, rn6 (u2 (u2 I' 2 5 v) 2 5 w) J' tp q m := fun v w => ⟨by rw [u2_k _ _ _ _ (by decide)]; exact (e1 v).1, (e1 v).2.1, fun z => by rw [u2_k _ _ _ _ (by decide)]; exact (e1 v).2.2 z⟩
  have f1 : ∀ v : Int32, frN I (u2 I' 2 5 v) J J' := fun v => frN_tr (frN_tr f0 g3) (frN_u _ _ _ (Or.inr (Or.inl rfl)))
  have f2 : ∀ v w : Int32, frN I (u2 (u2 I' 2 5 v) 2 5 w) J J' := fun v w => frN_tr (f1 v) (frN_u _ _ _ (Or.inr (Or.inl rfl)))
  have bad : kR tp q m = 1 → FV (u2 I' 2 5 1) J' := fun z => h m _ _ g1 (e1 1) (by rw [u2_s, z]; rfl) (f1 1)
  have k141 : ¬ (cL tp q m = m ∧ m ≤ 7) → Ok G d mX6_readRun 141 [some (.ref 2), some (.int (nI (cL tp q m))), some (.int (nI (m - cL tp q m))), none] [] (u2 I' 2 5 1) J' P K n (kV P K n FV) := by
    intro nc
    refine bX6_readRun_141 hX _ _ ?_
    by_cases c0 : cL tp q m = 0
    · refine br_t (by rw [c0]; exact nI_0) ?_
      by_cases c3 : m ≤ 3
      · refine br_f (nI_nlt (a := 3) (by omega) (by decide)) (h m _ _ g1 (e2 1 3) ?_ (f2 1 3))
        rw [u2_s]
        unfold kR
        rw [if_neg nc, if_pos ⟨c0, c3⟩]
        rfl
      · refine br_t (nI_lt (a := 3) (by omega) (by omega)) (bad ?_)
        unfold kR
        rw [if_neg nc, if_neg (fun z => c3 z.2)]
    · refine br_f (nI_ne0 (by omega) (by omega)) (bad ?_)
      unfold kR
      rw [if_neg nc, if_neg (fun z => c0 z.1)]
  refine bX6_readRun_118 hX _ _ ?_
  by_cases c1 : cL tp q m = m
  · refine br_t (by rw [show m - cL tp q m = 0 by omega]; exact nI_0) ?_
    by_cases c7 : m ≤ 7
    · refine br_f (nI_nlt (a := 7) (by omega) (by decide)) (h m _ _ g1 (e2 1 2) ?_ (f2 1 2))
      rw [u2_s]
      unfold kR
      rw [if_pos ⟨c1, c7⟩]
      rfl
    · exact br_t (nI_lt (a := 7) (by omega) (by omega)) (k141 (fun z => c7 z.2))
  · exact br_f (nI_ne0 (by omega) (by omega)) (k141 (fun z => c1 z.1))
theorem C_readSign {q : Nat} (hX : shX P K) (hP : P 2 0 = some 1) (S : rT6 I sz lm tp) (hq : q ≤ sz) (ha : I 2 3 = nI q) (h1 : sz ≤ q → FV (u2 I 2 5 0) J) (h2 : q < sz → FV (u2 (u2 I 2 5 (if sgn (tp q) then nI (tp q) else 1)) 2 3 (nI (q + 1))) J) : ckV G d mX6_readSign [.ref 2] I J P K n FV := by
  have hsz := S.2.2.1
  refine bX6_readSign_0 hX hP ?_
  rw [S.1, ha]
  by_cases c : q < sz
  · have ht := S.2.2.2.2 q c
    have h3 := h2 c
    refine br_t (nI_lt c (by omega)) ?_
    rw [nI_ck (by omega), ht.1, nI_1]
    refine ⟨nI_inN (by omega) (by decide), ?_⟩
    have k63 : sgn (tp q) = true → Ok G d mX6_readSign 63 [some (.ref 2), some (.int (nI (tp q))), none] [] I J P K n (kV P K n FV) := by
      intro e
      rw [if_pos e] at h3
      refine bX6_readSign_63 hX _ (br_f (by decide) ?_)
      rw [ha, nI_1]
      exact h3
    have st : ∀ {A B : Prop} (x : Nat), x < 1000 → (tp q = x → A) → (¬ tp q = x → B) → ((nI (tp q) = nI x → A) ∧ (¬ nI (tp q) = nI x → B)) := fun x hx a b => ⟨fun z => a ((nI_eq (by omega) (by omega)).mp z), fun z => b (fun w => z (by rw [w]))⟩
    refine st 59 (by decide) (fun z => k63 (by rw [z]; decide)) fun n1 => ?_
    refine st 60 (by decide) (fun z => k63 (by rw [z]; decide)) fun n2 => ?_
    refine st 61 (by decide) (fun z => k63 (by rw [z]; decide)) fun n3 => ?_
    refine st 62 (by decide) (fun z => k63 (by rw [z]; decide)) fun n4 => ?_
    refine st 40 (by decide) (fun z => k63 (by rw [z]; decide)) fun n5 => ?_
    refine st 41 (by decide) (fun z => k63 (by rw [z]; decide)) fun n6 => ?_
    have e : sgn (tp q) = false := by
      unfold sgn
      rw [decide_eq_false n1, decide_eq_false n2, decide_eq_false n3, decide_eq_false n4, decide_eq_false n5, decide_eq_false n6]
      rfl
    rw [if_neg (by rw [e]; decide)] at h3
    exact br_t rfl h3
  · exact br_f (nI_nlt (by omega) (by omega)) (h1 (by omega))
end Read6
