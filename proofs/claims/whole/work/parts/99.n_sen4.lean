/-! the class: the plain parts of a sentence are read -/
def ap9 (a s l : Nat) : Prop := 34 < a ∧ 34 < s ∧ 34 < l ∧ (a < s ∨ s + 3 < a) ∧ (l + 5 < s ∨ s + 3 < l) ∧ (a < l ∨ l + 5 < a)
def rS9 (I : sI) (a s : Nat) (q : sgT) : Prop := rN6 I s q.1 ∧ I a 3 = nI q.2
def frS9 (a s : Nat) (I I' : sI) (J J' : sJ) : Prop := (∀ x k, x ≠ 2 → ¬ (x = a ∧ k = 3) → ¬ (s ≤ x ∧ x ≤ s + 3) → I' x k = I x k) ∧ ∀ x k, ¬ (x = 2 ∧ k = 7) → J' x k = J x k
def kp9 (a s : Nat) (I I' : sI) (J J' : sJ) : Prop := I' 2 9 = I 2 9 ∧ I' 2 10 = I 2 10 ∧ frS9 a s I I' J J'
def sP9 (a s : Nat) (I0 : sI) (J0 : sJ) (sz lm : Nat) (tp : Nat → Nat) (F : Int32 → sI → sJ → Prop) (r : pE (sgT × tokT)) : Prop := match r with
  | .error e => ∀ I' J', I' 2 9 = nI e.1 → I' 2 10 = nI e.2 → frS9 a s I0 I' J0 J' → F 0 I' J'
  | .ok p => ∀ I' J', rS9 I' a s p.1 → rP6 I' J' sz lm tp p.2 → kp9 a s I0 I' J0 J' → F 1 I' J'
theorem kp9_rf (a s : Nat) (I : sI) (J : sJ) : kp9 a s I I J J := ⟨rfl, rfl, fun _ _ _ _ _ => rfl, fun _ _ _ => rfl⟩
theorem kp9_9 {a s : Nat} {I0 I I' : sI} {J0 J J' : sJ} (h : kp9 a s I0 I J0 J) (f : fr9 I I' J J') : kp9 a s I0 I' J0 J' := ⟨(f.1 2 9 (by omega)).trans h.1, (f.1 2 10 (by omega)).trans h.2.1, fun x k h1 h2 h3 => (f.1 x k (by omega)).trans (h.2.2.1 x k h1 h2 h3), fun x k h1 => (f.2 x k h1).trans (h.2.2.2 x k h1)⟩
theorem kp9_F {a s : Nat} {I0 I I' : sI} {J0 J : sJ} (h : kp9 a s I0 I J0 J) (f : frF I I') : frS9 a s I0 I' J0 J := ⟨fun x k h1 h2 h3 => (f x k (by omega)).trans (h.2.2.1 x k h1 h2 h3), h.2.2.2⟩
theorem kp9_s {a s : Nat} {I0 I I' : sI} {J0 J : sJ} (hs : 2 < s) (h : kp9 a s I0 I J0 J) (f : ∀ x k, ¬ (s ≤ x ∧ x ≤ s + 3) → I' x k = I x k) : kp9 a s I0 I' J0 J := ⟨(f _ _ (by omega)).trans h.1, (f _ _ (by omega)).trans h.2.1, fun x k h1 h2 h3 => (f x k h3).trans (h.2.2.1 x k h1 h2 h3), h.2.2.2⟩
theorem rN6_of {I I' : sI} {s : Nat} {L : List itT} (R : rN6 I s L) (f : ∀ x k, s ≤ x → x ≤ s + 3 → I' x k = I x k) : rN6 I' s L := ⟨(f _ _ (by omega) (by omega)).trans R.1, fun i hi => ⟨(f _ _ (by omega) (by omega)).trans (R.2 i hi).1, (f _ _ (by omega) (by omega)).trans (R.2 i hi).2.1, (f _ _ (by omega) (by omega)).trans (R.2 i hi).2.2⟩⟩
theorem rS9_9 {a s l : Nat} {I I' : sI} {J J' : sJ} {q : sgT} (p : ap9 a s l) (R : rS9 I a s q) (f : fr9 I I' J J') : rS9 I' a s q := by
  obtain ⟨p1, p2, -⟩ := p
  exact ⟨rN6_of R.1 (fun x k h1 h2 => f.1 x k (by omega)), (f.1 _ _ (by omega)).trans R.2⟩
theorem rP6_of {I I' : sI} {J J' : sJ} {sz lm : Nat} {tp : Nat → Nat} {t : tokT} (R : rP6 I J sz lm tp t) (f : ∀ x k, x ≤ 2 → I' x k = I x k) (g : J' 2 7 = J 2 7) : rP6 I' J' sz lm tp t := by
  obtain ⟨S, T, o⟩ := R
  exact ⟨⟨(f 2 1 (by decide)).trans S.1, (f 2 2 (by decide)).trans S.2.1, S.2.2.1, S.2.2.2.1, fun j hj => ⟨(f 1 j (by decide)).trans (S.2.2.2.2 j hj).1, (S.2.2.2.2 j hj).2⟩⟩, ⟨(f 2 3 (by decide)).trans T.1, (f 2 4 (by decide)).trans T.2.1, (f 2 5 (by decide)).trans T.2.2.1, fun z => (f 2 6 (by decide)).trans (T.2.2.2.1 z), fun z => g.trans (T.2.2.2.2.1 z), (f 2 8 (by decide)).trans T.2.2.2.2.2⟩, o⟩
section Sen8
variable {G : gG} {d : Nat} {I I0 : sI} {J J0 : sJ} {P : sP} {K : sK} {n : Nat} {F : Int32 → sI → sJ → Prop} {FV : sI → sJ → Prop} {sz lm : Nat} {tp : Nat → Nat} {t : tokT} {hd : Nat → Nat} {nm : Nat → List Nat} {a s l : Nat} {q : sgT}
theorem lyB_9 {I' : sI} {J' : sJ} (Y : lyB P K I J l hd nm) (f : fr9 I I' J J') : lyB P K I' J' l hd nm := by
  obtain ⟨h1, h2, h3, h4, h5⟩ := Y
  exact ⟨h1, h2, (f.1 _ _ (by omega)).trans h3, h4, fun s hs => ⟨(f.2 _ _ (by omega)).trans (h5 s hs).1, (h5 s hs).2⟩⟩
theorem C_plain117 {w sg y : Nat} (hX : shX P K) (hT : shT P K a l s) (hL : shL P K l) (hN : shN P K s) (p : ap9 a s l) (R : rP6 I J sz lm tp t) (A : rS9 I a s q) (hl : q.1.length < 40) (e11 : I 2 11 = nI y) (kp : kp9 a s I0 I J0 J) (h : sP9 a s I0 J0 sz lm tp F (.ok ((q.1 ++ [(w, sg, y)], q.2), t))) : Ok G (d + 1) mX9_readPlain 117 [some (.ref a), some (.int (nI w)), some (.int (nI sg))] [] I J P K n (kI P K n F) := by
  obtain ⟨p1, p2, p3, p4, p5, p6⟩ := p
  refine bX9_readPlain_117 hX _ _ _ hT hL hN ?_
  rw [e11]
  refine C_add hN A.1 hl (fun I' R' f => h I' J ⟨R', (f _ _ (by omega)).trans A.2⟩ (rP6_of R (fun x k hx => f x k (by omega)) rfl) (kp9_s (by omega) kp f))
theorem C_readPlain {w : Nat} (hw : 13 ≤ w ∧ w ≤ 21) (hX : shX P K) (hP : P 2 0 = some 1) (hT : shT P K a l s) (hL : shL P K l) (hN : shN P K s) (p : ap9 a s l) (Y : lyB P K I J l hd nm) (R : rP6 I J sz lm tp t) (A : rS9 I a s q) (hl : q.1.length < 40) (kp : kp9 a s I0 I J0 J) (h : sP9 a s I0 J0 sz lm tp F (match pPl (nxT tp sz lm) hd nm w t with | .error e => .error e | .ok p => .ok ((q.1 ++ [p.1], q.2), p.2))) : ckI G (d + 7) mX9_readPlain [.ref a, .int (nI w)] I J P K n F := by
  obtain ⟨p1, p2, p3, p4, p5, p6⟩ := id p
  have f0 : fr9 I (u2 I 2 11 0) J J := fr9_u I J 0
  have R0 := rP6_11 R 0
  have A0 := rS9_9 p A f0
  have Y0 := lyB_9 Y f0
  have kp0 := kp9_9 kp f0
  have ne : ∀ y : Nat, y < 100 → w ≠ y → ¬ nI w = nI y := fun y h2 h3 z => h3 ((nI_eq (by omega) (by omega)).mp z)
  unfold pPl at h
  refine bX9_readPlain_0 hX _ _ hT hL hN ?_
  by_cases c16 : w = 16
  · subst c16
    rw [if_neg (by decide), if_pos rfl] at h
    unfold pSc at h
    refine br_t rfl (C_takeScale Y0.1 (by omega) Y0.2.2.1 Y0.2.2.2.1 Y0.2.2.2.2 hX hP R0 (fun en I' g1 g2 g3 => br_t rfl ?_) (fun en nn I' g1 g2 g3 => br_t rfl ?_) (fun en sc es I4 J4 R4 g1 g2 => br_f (by decide) ?_))
    · rw [if_pos en] at h
      exact h I' J (by rw [g1]; show _ = nI (fau _ 1); rw [fau_1]; rfl) g2 (kp9_F kp0 g3)
    · rw [if_neg (by rw [en]; decide), nn] at h
      exact h I' J (by rw [g1]; show _ = nI (fau _ 3); rw [fau_2 (isN_2 en)]; rfl) g2 (kp9_F kp0 g3)
    · rw [if_neg (by rw [en]; decide), es] at h
      refine bX9_readPlain_32 hX _ _ _ hT hL hN (br_f (by decide) (bX9_readPlain_53 hX _ _ _ hT hL hN (br_t (by decide) ?_)))
      exact C_plain117 (w := 16) (sg := 0) hX hT hL hN p R4 (rS9_9 p A0 g2) hl g1 (kp9_9 kp0 g2) h
  · refine br_f (ne 16 (by decide) c16) (bX9_readPlain_32 hX _ _ _ hT hL hN ?_)
    by_cases c17 : w = 17
    · subst c17
      rw [if_neg (by decide), if_neg (by decide), if_pos rfl] at h
      refine br_t rfl (C_takeNumber (a := 0) (b := 39) (by decide) (by decide) hX hP R0 (fun e1 I' g1 g2 g3 => br_t rfl ?_) (fun e1 I4 J4 R4 g1 g2 => br_f (by decide) ?_))
      · rw [rdN_bad e1] at h
        exact h I' J g1 g2 (kp9_F kp0 g3)
      · rw [rdN_ok e1] at h
        refine bX9_readPlain_53 hX _ _ _ hT hL hN (br_t (by decide) ?_)
        exact C_plain117 (w := 17) (sg := 0) hX hT hL hN p R4 (rS9_9 p A0 g2) hl g1 (kp9_9 kp0 g2) h
    · refine br_f (ne 17 (by decide) c17) (bX9_readPlain_53 hX _ _ _ hT hL hN ?_)
      by_cases c18 : w < 18
      · rw [if_pos (by omega)] at h
        refine br_t (nI_lt (b := 18) c18 (by decide)) ?_
        exact C_plain117 (sg := 0) (y := 0) hX hT hL hN p R0 A0 hl (u2_s _ _ _ _) kp0 h
      · rw [if_neg (by omega), if_neg c16, if_neg c17] at h
        refine br_f (nI_nlt (b := 18) (by omega) (by omega)) ?_
        rw [R0.2.1.2.2.1]
        have k94 : ∀ sg : Nat, isS t sg = true → (isS t 60 || isS t 61 || isS t 62) = true → Ok G (d + 7) mX9_readPlain 94 [some (.ref a), some (.int (nI w)), some (.int (kd6 t))] [] (u2 I 2 11 0) J P K n (kI P K n F) := by
          intro sg hs ho
          rw [if_pos ho] at h
          have hs2 : t.1 = 4 ∧ t.2.2.2.1 = sg := by
            unfold isS at hs
            rw [Bool.and_eq_true, decide_eq_true_eq, decide_eq_true_eq] at hs
            exact hs
          have ek : kd6 t = nI t.2.2.2.1 := by unfold kd6; rw [if_pos hs2.1]
          rw [ek]
          refine bX9_readPlain_94 hX _ _ _ hT hL hN (C_nx (d := d + 1) hX hP R0 (fun I3 J3 R3 f3 => C_takeNumber (a := 0) (b := 999) (by decide) (by decide) hX hP R3 (fun e1 I' g1 g2 g3 => br_t rfl ?_) (fun e1 I4 J4 R4 g1 g2 => br_f (by decide) ?_)))
          · rw [rdN_bad e1] at h
            exact h I' J3 g1 g2 (kp9_F (kp9_9 kp0 (fr9_6 f3)) g3)
          · rw [rdN_ok e1] at h
            exact C_plain117 hX hT hL hN p R4 (rS9_9 p (rS9_9 p A0 (fr9_6 f3)) g2) hl g1 (kp9_9 (kp9_9 kp0 (fr9_6 f3)) g2) h
        have st : ∀ {X Y : Prop} (x : Nat), 40 ≤ x → x < 1000 → (isS t x = true → X) → (isS t x = false → Y) → ((kd6 t = nI x → X) ∧ (¬ kd6 t = nI x → Y)) := fun x h1 h2 f g => ⟨fun z => f ((kd6_S h1 h2 R.2.2.1).mp z), fun z => g (Bool.eq_false_iff.mpr (fun w => z ((kd6_S h1 h2 R.2.2.1).mpr w)))⟩
        refine st 60 (by decide) (by decide) (fun z => k94 60 z (by rw [z]; rfl)) fun n1 => ?_
        refine st 61 (by decide) (by decide) (fun z => k94 61 z (by rw [z, n1]; rfl)) fun n2 => ?_
        refine st 62 (by decide) (by decide) (fun z => k94 62 z (by rw [z, n1, n2]; rfl)) fun n3 => ?_
        rw [if_neg (by rw [n1, n2, n3]; decide)] at h
        exact C_failF hX R0 (fun I' g1 g2 g3 => h I' J (by rw [g1]; show _ = nI (fau _ 1); rw [fau_1]; rfl) g2 (kp9_F kp0 g3))
end Sen8
