/-! the class: the reader's next token -/
section Read7
variable {G : gG} {d : Nat} {I : sI} {J : sJ} {P : sP} {K : sK} {n : Nat} {F : Int32 → sI → sJ → Prop} {FV : sI → sJ → Prop} {sz lm : Nat} {tp : Nat → Nat} {t : tokT}
theorem wI_no {t : tokT} (h : t.1 ≠ 2) : oWh (wI t) = -1 := by
  unfold wI
  rw [if_neg h]
  rfl
theorem C_next93 {q : Nat} (hX : shX P K) (hP : P 2 0 = some 1) (S : rT6 I sz lm tp) (hq : q ≤ sz) (ha : I 2 3 = nI q) (h8 : I 2 8 = -1) (hc : ¬ (lm < sz ∧ lm ≤ q)) (h : ∀ I' J', rR6 I' J' (tokQ tp sz lm q) → fr6 I I' J J' → FV I' J') : Ok G (d + 5) mX6_next 93 [some (.ref 2)] [] I J P K n (kV P K n FV) := by
  have hsz := S.2.2.1
  have f0 : fr6 I (u2 I 2 4 (nI q)) J J := fr6_u I J _ (by omega)
  refine bX6_next_93 hX ?_
  rw [ha]
  refine C_readRun hX hP (rT6_fr S f0) hq (by rw [u2_k _ _ _ _ (by decide)]; exact ha) (fun m I1 J1 g1 g2 g3 g4 => ?_)
  have f1 := fr6_tr f0 (frN_6 g4)
  have S1 := rT6_fr S f1
  have h14 : I1 2 4 = nI q := (g4.1 2 4 (by omega)).trans (u2_s _ _ _ _)
  have h18 : I1 2 8 = -1 := (g4.1 2 8 (by omega)).trans (by rw [u2_k _ _ _ _ (by decide)]; exact h8)
  have hm := (rln_ok tp sz (sz - q) q hq).2.1
  unfold tokQ at h
  rw [if_neg hc] at h
  rw [g2.1, h14]
  by_cases m0 : m = 0
  · subst m0
    refine br_t rfl (C_readSign hX hP S1 hq g2.1 (fun z => ?_) (fun z => ?_))
    · rw [if_pos z] at h
      refine h _ _ ⟨?_, ?_, ?_, fun a => (by cases a), fun a => (by cases a), ?_⟩ (fr6_tr f1 (fr6_u _ _ _ (by omega)))
      · rw [u2_k _ _ _ _ (by decide)]; exact g2.1
      · rw [u2_k _ _ _ _ (by decide)]; exact h14
      · rw [u2_s]; rfl
      · rw [u2_k _ _ _ _ (by decide), h18, wI_no (fun a => (by cases a))]
    · have nn := rln_0 z g1.symm
      rw [if_neg (by omega), if_pos nn] at h
      refine h _ _ ⟨?_, ?_, ?_, fun a => ?_, fun a => ?_, ?_⟩ (fr6_tr f1 (fr6_tr (fr6_u _ _ _ (by omega)) (fr6_u _ _ _ (by omega))))
      · rw [u2_s]
      · rw [u2_k _ _ _ _ (by decide), u2_k _ _ _ _ (by decide)]; exact h14
      · rw [u2_k _ _ _ _ (by decide), u2_s]
        unfold kd6
        cases sgn (tp q) <;> rfl
      · exfalso
        have a : (if sgn (tp q) then 4 else 1) = 3 := a
        split at a <;> cases a
      · exfalso
        have a : (if sgn (tp q) then 4 else 1) = 2 := a
        split at a <;> cases a
      · rw [u2_k _ _ _ _ (by decide), u2_k _ _ _ _ (by decide), h18, wI_no]
        show (if sgn (tp q) then 4 else 1) ≠ 2
        split <;> decide
  · have hz : q < sz := by omega
    have al := (rln_ok tp sz (sz - q) q hq).2.2 q (Nat.le_refl _) (by omega)
    rw [if_neg (by omega), if_neg (fun z => by unfold alB at al; rw [z.1, z.2] at al; cases al), ← g1, tokR_k (by omega)] at h
    refine br_f (fun z => by have := (nI_eq (by omega) (by omega)).mp z; omega) ?_
    unfold kR at g3
    by_cases c1 : cL tp q m = m ∧ m ≤ 7
    · rw [if_pos c1] at h g3
      have ok : okW (lets tp q m) := ⟨fun e => by have := lets_len tp q m; rw [e] at this; exact m0 this.symm, by rw [lets_len]; exact c1.2, lets_ok (cL_all.mp c1.1)⟩
      refine br_t g3 ?_
      rw [g2.2.1 c1.1]
      refine C_wordOf ok (h _ _ ⟨?_, ?_, ?_, fun a => (by cases a), fun _ => g2.2.1 c1.1, ?_⟩ (fr6_tr f1 (fr6_u _ _ _ (by omega))))
      · rw [u2_k _ _ _ _ (by decide)]; exact g2.1
      · rw [u2_k _ _ _ _ (by decide)]; exact h14
      · rw [u2_k _ _ _ _ (by decide)]; exact g3
      · rw [u2_s]; rfl
    · rw [if_neg c1] at h g3
      by_cases c2 : cL tp q m = 0 ∧ m ≤ 3
      · rw [if_pos c2] at h g3
        refine br_f (by rw [g3]; decide) (h _ _ ⟨g2.1, h14, g3, fun _ => g2.2.2 c2.1, fun a => (by cases a), ?_⟩ f1)
        rw [h18, wI_no (fun a => (by cases a))]
      · rw [if_neg c2] at h g3
        refine br_f (by rw [g3]; decide) (h _ _ ⟨g2.1, h14, g3, fun a => (by cases a), fun a => (by cases a), ?_⟩ f1)
        rw [h18, wI_no (fun a => (by cases a))]
theorem C_next52 {q : Nat} (hX : shX P K) (hP : P 2 0 = some 1) (S : rT6 I sz lm tp) (hq : q ≤ sz) (ha : I 2 3 = nI q) (h : ∀ I' J', rR6 I' J' (tokQ tp sz lm q) → fr6 I I' J J' → FV I' J') : Ok G (d + 5) mX6_next 52 [some (.ref 2)] [] I J P K n (kV P K n FV) := by
  have hsz := S.2.2.1
  have hlm := S.2.2.2.1
  have f0 : fr6 I (u2 I 2 8 (-1)) J J := fr6_u I J _ (by omega)
  have k93 : ¬ (lm < sz ∧ lm ≤ q) → Ok G (d + 5) mX6_next 93 [some (.ref 2)] [] (u2 I 2 8 (-1)) J P K n (kV P K n FV) := fun hc => C_next93 hX hP (rT6_fr S f0) hq (by rw [u2_k _ _ _ _ (by decide)]; exact ha) (u2_s _ _ _ _) hc (fun I' J' g1 g2 => h I' J' g1 (fr6_tr f0 g2))
  refine bX6_next_52 hX ?_
  rw [S.1, S.2.1, ha]
  by_cases c1 : lm < sz
  · refine br_f (nI_ge c1 (by omega)) ?_
    by_cases c2 : lm ≤ q
    · refine br_f (nI_nlt c2 (by omega)) ?_
      unfold tokQ at h
      rw [if_pos ⟨c1, c2⟩] at h
      refine h _ _ ⟨?_, ?_, ?_, fun a => (by cases a), fun a => (by cases a), ?_⟩ (fr6_tr f0 (fr6_tr (fr6_u _ _ _ (by omega)) (fr6_u _ _ _ (by omega))))
      · rw [u2_k _ _ _ _ (by decide), u2_k _ _ _ _ (by decide), u2_k _ _ _ _ (by decide)]; exact ha
      · rw [u2_k _ _ _ _ (by decide), u2_s]
      · rw [u2_s]; rfl
      · rw [u2_k _ _ _ _ (by decide), u2_k _ _ _ _ (by decide), u2_s, wI_no (fun a => (by cases a))]
    · exact br_t (nI_lt (by omega) (by omega)) (k93 (fun z => c2 z.2))
  · exact br_t (nI_le (by omega) (by omega)) (k93 (fun z => c1 z.1))
theorem C_skip (hX : shX P K) (hP : P 2 0 = some 1) : ∀ (f p : Nat) (I : sI), p + f = sz → rT6 I sz lm tp → I 2 3 = nI p → (∀ I', rT6 I' sz lm tp → I' 2 3 = nI (skp tp sz f p) → fr6 I I' J J → Ok G (d + 1) mX6_next 52 [some (.ref 2)] [] I' J P K n (kV P K n FV)) → Ok G (d + 1) mX6_next 0 [some (.ref 2)] [] I J P K n (kV P K n FV) := by
  intro f
  induction f with
  | zero =>
    intro p I hf S ha h
    have hsz := S.2.2.1
    refine bX6_next_0 hX hP ?_
    rw [S.1, ha]
    exact br_t (nI_le (by omega) (by omega)) (h I S ha (fr6_rf I J))
  | succ f ih =>
    intro p I hf S ha h
    have hsz := S.2.2.1
    have ht := S.2.2.2.2 p (by omega)
    have f0 : fr6 I (u2 I 2 3 (nI (p + 1))) J J := fr6_u I J _ (by omega)
    simp only [skp] at h
    refine bX6_next_0 hX hP ?_
    rw [S.1, ha]
    refine br_f (nI_ge (by omega) (by omega)) ?_
    rw [nI_ck (by omega), ht.1, nI_1]
    refine ⟨nI_inN (by omega) (by decide), ?_⟩
    have go : p < sz ∧ (tp p = 32 ∨ tp p = 10) → Ok G (d + 1) mX6_next 0 [some (.ref 2)] [] (u2 I 2 3 (nI (p + 1))) J P K n (kV P K n FV) := fun c => by
      rw [if_pos c] at h
      exact ih (p + 1) _ (by omega) (rT6_fr S f0) (u2_s _ _ _ _) (fun I' g1 g2 g3 => h I' g1 g2 (fr6_tr f0 g3))
    by_cases c1 : tp p = 32
    · exact br_t (by rw [c1]; rfl) (go ⟨by omega, Or.inl c1⟩)
    · refine br_f (fun z => c1 ((nI_eq (b := 32) (by omega) (by decide)).mp z)) ⟨nI_inN (by omega) (by decide), ?_⟩
      by_cases c2 : tp p = 10
      · exact br_t (by rw [c2]; rfl) (go ⟨by omega, Or.inr c2⟩)
      · refine br_f (fun z => c2 ((nI_eq (b := 10) (by omega) (by decide)).mp z)) ?_
        rw [if_neg (fun z => z.2.elim c1 c2)] at h
        exact h I S ha (fr6_rf I J)
theorem C_next {p : Nat} (hX : shX P K) (hP : P 2 0 = some 1) (S : rT6 I sz lm tp) (hp : p ≤ sz) (ha : I 2 3 = nI p) (h : ∀ I' J', rR6 I' J' (tok tp sz lm p) → fr6 I I' J J' → FV I' J') : ckV G (d + 5) mX6_next [.ref 2] I J P K n FV := by
  refine C_skip (d := d + 4) (sz := sz) (lm := lm) (tp := tp) hX hP (sz - p) p I (by omega) S ha (fun I1 g1 g2 g3 => ?_)
  exact C_next52 hX hP g1 (skp_le tp sz (sz - p) p hp).1 g2 (fun I' J' a b => h I' J' a (fr6_tr g3 b))
/-! the reader at a token -/
theorem tok_sg (tp : Nat → Nat) (sz lm p : Nat) : (tok tp sz lm p).1 = 4 → sgn (tok tp sz lm p).2.2.2.1 = true := by
  unfold tok
  generalize skp tp sz (sz - p) p = q
  unfold tokQ
  split
  · intro a; cases a
  split
  · intro a; cases a
  split
  · intro a
    have a : (if sgn (tp q) then 4 else 1) = 4 := a
    show sgn (tp q) = true
    split at a
    · assumption
    · cases a
  · unfold tokR
    repeat' split
    all_goals (intro a; cases a)
theorem sgn_ge {c : Nat} (h : sgn c = true) : 40 ≤ c ∧ c ≤ 62 := by
  simp only [sgn, Bool.or_eq_true, decide_eq_true_eq] at h
  omega
def rP6 (I : sI) (J : sJ) (sz lm : Nat) (tp : Nat → Nat) (t : tokT) : Prop := rT6 I sz lm tp ∧ rR6 I J t ∧ okT t sz ∧ (t.1 = 4 → sgn t.2.2.2.1 = true)
theorem C_nx (hX : shX P K) (hP : P 2 0 = some 1) (R : rP6 I J sz lm tp t) (h : ∀ I' J', rP6 I' J' sz lm tp (nxT tp sz lm t) → fr6 I I' J J' → FV I' J') : ckV G (d + 5) mX6_next [.ref 2] I J P K n FV := by
  obtain ⟨S, T, o, -⟩ := R
  refine C_next hX hP S o.2.1 T.1 (fun I' J' a b => h I' J' ⟨rT6_fr S b, a, tok_ok S.2.2.1 S.2.2.2.1 o.2.1 (fun j hj => (S.2.2.2.2 j hj).2), tok_sg _ _ _ _⟩ b)
/-- what failing writes -/
theorem C_fail {k : Int32} (hX : shX P K) (T : rR6 I J t) (h : ∀ I', I' 2 9 = k → I' 2 10 = nI t.2.1 → (∀ c j, ¬ (c = 2 ∧ (j = 9 ∨ j = 10)) → I' c j = I c j) → F 0 I' J) : ckI G d mX6_fail [.ref 2, .int k] I J P K n F := by
  refine bX6_fail_0 hX _ ?_
  rw [T.2.1]
  refine h _ ?_ (u2_s _ _ _ _) (fun c j a => ?_)
  · rw [u2_k _ _ _ _ (by decide), u2_s]
  · simp only [u2]
    rw [if_neg (by omega), if_neg (by omega)]
theorem kd6_eq {t : tokT} (o : okT t sz) {k : Nat} (hk : k < 1000) : (kd6 t = nI k) ↔ (if t.1 = 4 then t.2.2.2.1 else t.1) = k := by
  have o1 := o.1
  have o5 := o.2.2.2.2
  unfold kd6
  split
  · exact nI_eq (by omega) (by omega)
  · exact nI_eq (by omega) (by omega)
theorem C_isName (hX : shX P K) (R : rP6 I J sz lm tp t) (h : F (b01 (isN t)) I J) : ckI G d mX6_isName [.ref 2] I J P K n F := by
  obtain ⟨S, T, o, sg⟩ := R
  rw [isN_wI] at h
  refine bX6_isName_0 hX ?_
  rw [T.2.2.1, T.2.2.2.2.2]
  have e2 : (kd6 t = 2) ↔ (if t.1 = 4 then t.2.2.2.1 else t.1) = 2 := kd6_eq (k := 2) o (by decide)
  by_cases c : t.1 = 2
  · rw [decide_eq_true c, Bool.true_and] at h
    refine br_t (e2.mpr (by rw [if_neg (by omega)]; exact c)) ?_
    cases w : wI t with
    | none =>
      rw [w, decide_eq_true rfl] at h
      exact br_t rfl h
    | some k =>
      rw [w, decide_eq_false (by simp)] at h
      refine br_f ?_ h
      have hk : k < 22 := by
        unfold wI at w
        rw [if_pos c] at w
        have := (fndN_lt w).2.1
        omega
      exact nI_nm1 (by omega)
  · rw [decide_eq_false c, Bool.false_and] at h
    refine br_f (fun z => ?_) h
    have z := e2.mp z
    split at z
    · rename_i q; have := sgn_ge (sg q); omega
    · exact c z
end Read7
