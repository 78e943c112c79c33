/-! the class: what the reader takes -/
def fr9 (I I' : sI) (J J' : sJ) : Prop := (∀ c k, ¬ (c = 2 ∧ ((3 ≤ k ∧ k ≤ 8) ∨ k = 11)) → I' c k = I c k) ∧ ∀ c k, ¬ (c = 2 ∧ k = 7) → J' c k = J c k
def frF (I I' : sI) : Prop := ∀ c k, ¬ (c = 2 ∧ (k = 9 ∨ k = 10)) → I' c k = I c k
theorem fr9_6 {I I' : sI} {J J' : sJ} (h : fr6 I I' J J') : fr9 I I' J J' := ⟨fun c k a => h.1 c k (by omega), fun c k a => h.2 c k a⟩
theorem fr9_tr {I I' I2 : sI} {J J' J2 : sJ} (h : fr9 I I' J J') (h2 : fr9 I' I2 J' J2) : fr9 I I2 J J2 := ⟨fun c k a => (h2.1 c k a).trans (h.1 c k a), fun c k a => (h2.2 c k a).trans (h.2 c k a)⟩
theorem fr9_u (I : sI) (J : sJ) (v : Int32) : fr9 I (u2 I 2 11 v) J J := ⟨fun c j a => by simp only [u2]; rw [if_neg (by omega)], fun _ _ _ => rfl⟩
theorem rP6_11 {I : sI} {J : sJ} {sz lm : Nat} {tp : Nat → Nat} {t : tokT} (R : rP6 I J sz lm tp t) (v : Int32) : rP6 (u2 I 2 11 v) J sz lm tp t := by
  obtain ⟨S, T, o⟩ := R
  have e : ∀ c k, ¬ (c = 2 ∧ k = 11) → u2 I 2 11 v c k = I c k := fun c k a => by simp only [u2]; rw [if_neg a]
  refine ⟨⟨(e 2 1 (by omega)).trans S.1, (e 2 2 (by omega)).trans S.2.1, S.2.2.1, S.2.2.2.1, fun j hj => ⟨(e 1 j (by omega)).trans (S.2.2.2.2 j hj).1, (S.2.2.2.2 j hj).2⟩⟩, ⟨(e 2 3 (by omega)).trans T.1, (e 2 4 (by omega)).trans T.2.1, (e 2 5 (by omega)).trans T.2.2.1, fun a => (e 2 6 (by omega)).trans (T.2.2.2.1 a), T.2.2.2.2.1, (e 2 8 (by omega)).trans T.2.2.2.2.2⟩, o⟩
section Take6
variable {G : gG} {d : Nat} {I : sI} {J : sJ} {P : sP} {K : sK} {n : Nat} {F : Int32 → sI → sJ → Prop} {FV : sI → sJ → Prop} {sz lm : Nat} {tp : Nat → Nat} {t : tokT} {hd : Nat → Nat} {nm : Nat → List Nat} {l : Nat}
theorem C_failF {k : Int32} (hX : shX P K) (R : rP6 I J sz lm tp t) (h : ∀ I', I' 2 9 = k → I' 2 10 = nI t.2.1 → frF I I' → F 0 I' J) : ckI G d mX6_fail [.ref 2, .int k] I J P K n (fun v I' J' => (v = 0 ∨ v = 1) ∧ F v I' J') := C_fail hX R.2.1 (fun I' a b c => ⟨Or.inl rfl, h I' a b c⟩)
theorem C_takeNumber {a b : Nat} (ha : a < 2147483648) (hb : b < 2147483648) (hX : shX P K) (hP : P 2 0 = some 1) (R : rP6 I J sz lm tp t) (he : eN t a b ≠ 0 → ∀ I', I' 2 9 = nI (fau t (eN t a b)) → I' 2 10 = nI t.2.1 → frF I I' → F 0 I' J) (ho : eN t a b = 0 → ∀ I' J', rP6 I' J' sz lm tp (nxT tp sz lm t) → I' 2 11 = nI t.2.2.2.1 → fr9 I I' J J' → F 1 I' J') : ckI G (d + 6) mX6_takeNumber [.ref 2, .int (nI a), .int (nI b)] I J P K n F := by
  have o := R.2.2.1
  have o1 := o.1
  have o5 := o.2.2.2.2
  have e3 : (kd6 t = 3) ↔ (if t.1 = 4 then t.2.2.2.1 else t.1) = 3 := kd6_eq (k := 3) o (by decide)
  refine bX6_takeNumber_0 hX _ _ ?_
  rw [R.2.1.2.2.1]
  unfold eN at he ho
  by_cases c : t.1 = 3
  · rw [if_pos c] at he ho
    refine br_t (e3.mpr (by rw [if_neg (by omega)]; exact c)) ?_
    rw [R.2.1.2.2.2.1 c]
    have bad : ¬ (a ≤ t.2.2.2.1 ∧ t.2.2.2.1 ≤ b) → ckI G (d + 5) mX6_fail [.ref 2, .int 2] I J P K n (fun v I' J' => (v = 0 ∨ v = 1) ∧ F v I' J') := fun z => by
      rw [if_neg z] at he
      refine C_failF hX R (fun I' g1 g2 g3 => he (by decide) I' (g1.trans ?_) g2 g3)
      unfold fau
      rw [if_neg (by omega)]
      rfl
    by_cases c1 : t.2.2.2.1 < a
    · exact br_t (nI_lt c1 (by omega)) (bad (by omega))
    · refine br_f (nI_nlt (by omega) (by omega)) ?_
      by_cases c2 : t.2.2.2.1 ≤ b
      · rw [if_pos ⟨by omega, c2⟩] at ho
        refine br_t (nI_le c2 (by omega)) (C_nx hX hP (rP6_11 R _) (fun I' J' g1 g2 => ho rfl I' J' g1 ((g2.1 2 11 (by omega)).trans (u2_s _ _ _ _)) (fr9_tr (fr9_u I J _) (fr9_6 g2))))
      · exact br_f (nI_ge (by omega) (by omega)) (bad (by omega))
  · rw [if_neg c] at he
    refine br_f (fun z => ?_) (C_failF hX R (fun I' g1 g2 g3 => he (by decide) I' (g1.trans ?_) g2 g3))
    · have z := e3.mp z
      split at z
      · rename_i q; have := sgn_ge (R.2.2.2 q); omega
      · exact c z
    · unfold fau
      split <;> rfl
theorem kd6_S {c : Nat} (hc : 40 ≤ c) (hc2 : c < 1000) (o : okT t sz) : (kd6 t = nI c) ↔ isS t c = true := by
  have o1 := o.1
  rw [kd6_eq o hc2]
  unfold isS
  rw [Bool.and_eq_true, decide_eq_true_eq, decide_eq_true_eq]
  split
  · rename_i q; exact ⟨fun z => ⟨q, z⟩, fun z => z.2⟩
  · rename_i q; exact ⟨fun z => by omega, fun z => absurd z.1 q⟩
theorem C_takeSign {c : Nat} (hc : 40 ≤ c) (hc2 : c < 1000) (hX : shX P K) (hP : P 2 0 = some 1) (R : rP6 I J sz lm tp t) (he : isS t c = false → ∀ I', I' 2 9 = 1 → I' 2 10 = nI t.2.1 → frF I I' → F 0 I' J) (ho : isS t c = true → ∀ I' J', rP6 I' J' sz lm tp (nxT tp sz lm t) → fr6 I I' J J' → F 1 I' J') : ckI G (d + 6) mX6_takeSign [.ref 2, .int (nI c)] I J P K n F := by
  refine bX6_takeSign_0 hX _ ?_
  rw [R.2.1.2.2.1]
  cases e : isS t c with
  | true => exact br_t ((kd6_S hc hc2 R.2.2.1).mpr e) (C_nx hX hP R (fun I' J' g1 g2 => ho e I' J' g1 g2))
  | false => exact br_f (fun z => by rw [(kd6_S hc hc2 R.2.2.1).mp z] at e; cases e) (C_failF hX R (fun I' g1 g2 g3 => he e I' g1 g2 g3))
theorem C_scaleNamed {w : List Nat} (S : shL P K l) (L : I l 0 = nI (hd 0)) (h5 : hd 0 ≤ 5) (N : rLN J l hd nm) (hw : okW w) (h : F (oWh (fndN nm w (hd 0) 0)) I J) : ckI G d mX5_scaleNamed [.ref l, .long (lN (vB 32 w 0))] I J P K n F := by
  refine bX5_scaleNamed_0 _ _ ?_
  have lp : ∀ (f k : Nat), k + f = hd 0 → F (oWh (fndN nm w f k)) I J → Ok G d mX5_scaleNamed 2 [some (.ref l), some (.long (lN (vB 32 w 0))), none, some (.int (nI k))] [] I J P K n (kI P K n F) := by
    intro f
    induction f with
    | zero =>
      intro k hk h
      refine bX5_scaleNamed_2 _ _ _ S ?_
      rw [L]
      exact br_t (nI_le (by omega) (by omega)) h
    | succ f ih =>
      intro k hk h
      have N1 := N k (by omega)
      simp only [fndN] at h
      refine bX5_scaleNamed_2 _ _ _ S ?_
      rw [L]
      refine br_f (nI_ge (by omega) (by omega)) ⟨nI_inN (by omega) (by decide), ?_⟩
      rw [nI_ck (by omega), N1.1]
      by_cases c : nm k = w
      · rw [if_pos c] at h
        exact br_t ((lg_cmp_eq _ _).mpr (by rw [c])) h
      · rw [if_neg c] at h
        refine br_f (fun z => c ((okW_eq32 N1.2 hw).mp ((lg_cmp_eq _ _).mp z))) ?_
        rw [nI_1]
        exact ih (k + 1) (by omega) h
  exact lp (hd 0) 0 (by omega) h
theorem C_takeScale (S : shL P K l) (hl : l ≠ 2) (L : I l 0 = nI (hd 0)) (h5 : hd 0 ≤ 5) (N : rLN J l hd nm) (hX : shX P K) (hP : P 2 0 = some 1) (R : rP6 I J sz lm tp t) (he : isN t = false → ∀ I', I' 2 9 = 1 → I' 2 10 = nI t.2.1 → frF I I' → F 0 I' J) (hn : isN t = true → fndN nm t.2.2.2.2 (hd 0) 0 = none → ∀ I', I' 2 9 = 3 → I' 2 10 = nI t.2.1 → frF I I' → F 0 I' J) (ho : isN t = true → ∀ s, fndN nm t.2.2.2.2 (hd 0) 0 = some s → ∀ I' J', rP6 I' J' sz lm tp (nxT tp sz lm t) → I' 2 11 = nI s → fr9 I I' J J' → F 1 I' J') : ckI G (d + 6) mX6_takeScale [.ref 2, .ref l] I J P K n F := by
  refine bX6_takeScale_0 hX _ S (C_isName hX R ?_)
  cases e : isN t with
  | false => exact br_t rfl (C_failF hX R (fun I' g1 g2 g3 => he e I' g1 g2 g3))
  | true =>
    have t2 := isN_2 e
    refine br_f (by decide) ?_
    rw [R.2.1.2.2.2.2.1 t2]
    refine C_scaleNamed S L h5 N (R.2.2.1.2.2.2.1 t2) ?_
    cases w : fndN nm t.2.2.2.2 (hd 0) 0 with
    | none => exact br_t rfl (C_failF hX R (fun I' g1 g2 g3 => hn e w I' g1 g2 g3))
    | some s =>
      have hs := fndN_lt w
      refine br_f (nI_nm1 (by omega)) (C_nx hX hP (rP6_11 R _) (fun I' J' g1 g2 => ho e s w I' J' g1 ((g2.1 2 11 (by omega)).trans (u2_s _ _ _ _)) (fr9_tr (fr9_u I J _) (fr9_6 g2))))
end Take6
