/-! the class: a book is read -/
section Bk7
variable {G : gG} {d : Nat} {I I0 : sI} {J J0 : sJ} {P : sP} {K : sK} {n : Nat} {F : Int32 → sI → sJ → Prop} {FV : sI → sJ → Prop} {sz lm : Nat} {tp : Nat → Nat} {t : tokT} {hd : Nat → Nat} {nm : Nat → List Nat} {l i : Nat}
theorem fB_rf (lo hi i : Nat) (I : sI) (J : sJ) : fB lo hi i I I J J := ⟨fun _ _ _ _ => rfl, fun _ _ _ => rfl, id⟩
theorem fB_w {lo hi i : Nat} {I I' : sI} {J J' : sJ} (h : fB lo hi i I I' J J') (a : 24 ≤ lo ∧ hi ≤ 28) : fB 24 28 i I I' J J' := fB_tr h (fB_rf lo hi i I' J') (by omega)
theorem bP_01 {lo hi : Nat} {α : Type} {Q : α → sI → Prop} {r : pE (α × tokT)} (h : bP lo hi i I0 J0 sz lm tp Q F r) : bP lo hi i I0 J0 sz lm tp Q (fun v I J => (v = 0 ∨ v = 1) ∧ F v I J) r := by
  cases r with
  | error e => exact fun I' J' g1 g2 g3 => ⟨Or.inl rfl, h I' J' g1 g2 g3⟩
  | ok p => exact fun I' J' g1 g2 g3 g4 g5 => ⟨Or.inr rfl, h I' J' g1 g2 g3 g4 g5⟩
theorem C_bRest {w : Nat} (hw : w ≤ 4) (hX : shX P K) (hP : P 2 0 = some 1) (Y : lyB P K I J l hd nm) (R : rP6 I J sz lm tp t) (hi : I 22 6 = nI i) (h4 : i < 40) (h23 : I 23 i = nI (w + 5)) (h : bP 24 28 i I J sz lm tp (fun q I' => rB6 I' i (w, q)) F (pBr (nxT tp sz lm) hd nm w t)) : ckI G (d + 9) mX0_readRest [.ref 22, .ref 2, .ref l] I J P K n F := by
  have k24 := shX_K24 hX
  have k25 := shX_K25 hX
  have k26 := shX_K26 hX
  have k27 := shX_K27 hX
  refine bX0_readRest_0 hX _ ?_
  rw [hi, nI_ck (by omega), h23]
  refine ⟨nI_inN h4 (by decide), ?_⟩
  match w, hw, h, h23 with
  | 0, _, h, h23 =>
    refine ⟨fun _ => C_bCask (x := 24) (Or.inl rfl) k24 k25 hX hP Y R hi h4 ?_, fun z => absurd z (by decide), fun z => absurd z (by decide), fun z => absurd z (by decide), fun z => absurd rfl z⟩
    unfold pBr at h
    cases e : pCk (nxT tp sz lm) hd nm t with
    | error er =>
      rw [e] at h
      exact fun I' J' g1 g2 g3 => br_t rfl (h I' J' g1 g2 (fB_w g3 (by decide)))
    | ok p =>
      rw [e] at h
      dsimp only at h
      intro I1 J1 q1 R1 q9 q10 f1
      refine br_f (by decide) (C_bAmt (d := d + 1) (b := 400) (by decide) hX hP R1 ((f1.1 22 6 (by decide) (by omega)).trans hi) h4 ?_)
      cases e2 : rdN (nxT tp sz lm) p.2 1 400 with
      | error er =>
        rw [e2] at h
        exact fun I' J' g1 g2 g3 => br_t rfl (h I' J' g1 g2 (fB_tr f1 g3 (by decide)))
      | ok z =>
        rw [e2] at h
        intro I2 J2 q2 R2 r9 r10 f2
        refine br_f (by decide) (h I2 J2 ⟨?_, fun _ => ?_, fun _ => ⟨?_, q2⟩, fun a => (by cases a), fun a => (by cases a)⟩ R2 (r9.trans q9) (r10.trans q10) (fB_tr f1 f2 (by decide)))
        · rw [f2.1 _ _ (by decide) (by omega), f1.1 _ _ (by decide) (by omega)]; exact h23
        · rw [f2.1 _ _ (by decide) (by omega)]; exact q1.1
        · rw [f2.1 _ _ (by decide) (by omega)]; exact q1.2
  | 1, _, h, h23 =>
    refine ⟨fun z => absurd z (by decide), fun _ => C_bScale (d := d + 1) (x := 24) (Or.inl rfl) k24 hX hP Y R hi h4 (bP_01 ?_), fun z => absurd z (by decide), fun z => absurd z (by decide), fun _ z => absurd rfl z⟩
    unfold pBr at h
    cases e : pSc (nxT tp sz lm) hd nm t with
    | error er =>
      rw [e] at h
      exact fun I' J' g1 g2 g3 => h I' J' g1 g2 (fB_w g3 (by decide))
    | ok p =>
      rw [e] at h
      intro I1 J1 q1 R1 q9 q10 f1
      refine h I1 J1 ⟨?_, fun _ => q1, fun a => (by rcases a with a | a <;> cases a), fun a => (by cases a), fun a => (by cases a)⟩ R1 q9 q10 (fB_w f1 (by decide))
      rw [f1.1 _ _ (by decide) (by omega)]; exact h23
  | 2, _, h, h23 =>
    refine ⟨fun z => absurd z (by decide), fun z => absurd z (by decide), fun z => absurd z (by decide), fun z => absurd z (by decide), fun _ _ _ _ => ?_⟩
    exact h I J ⟨h23, fun a => (by rcases a with a | a | a <;> cases a), fun a => (by rcases a with a | a <;> cases a), fun a => (by cases a), fun a => (by cases a)⟩ R rfl rfl (fB_rf _ _ _ _ _)
  | 3, _, h, h23 =>
    refine ⟨fun z => absurd z (by decide), fun z => absurd z (by decide), fun _ => C_bCask (x := 24) (Or.inl rfl) k24 k25 hX hP Y R hi h4 ?_, fun z => absurd z (by decide), fun _ _ z => absurd rfl z⟩
    unfold pBr at h
    cases e : pCk (nxT tp sz lm) hd nm t with
    | error er =>
      rw [e] at h
      exact fun I' J' g1 g2 g3 => br_t rfl (h I' J' g1 g2 (fB_w g3 (by decide)))
    | ok p =>
      rw [e] at h
      dsimp only at h
      intro I1 J1 q1 R1 q9 q10 f1
      refine br_f (by decide) (C_bCask (x := 26) (Or.inr rfl) k26 k27 hX hP (lyB_f Y f1 (by decide)) R1 ((f1.1 22 6 (by decide) (by omega)).trans hi) h4 ?_)
      cases e1 : pCk (nxT tp sz lm) hd nm p.2 with
      | error er =>
        rw [e1] at h
        exact fun I' J' g1 g2 g3 => br_t rfl (h I' J' g1 g2 (fB_tr f1 g3 (by decide)))
      | ok q =>
        rw [e1] at h
        dsimp only at h
        intro I2 J2 q2 R2 r9 r10 f2
        have f12 : fB 24 28 i I I2 J J2 := fB_tr f1 f2 (by decide)
        refine br_f (by decide) (C_bAmt (d := d + 1) (b := 400) (by decide) hX hP R2 ((f12.1 22 6 (by decide) (by omega)).trans hi) h4 ?_)
        cases e2 : rdN (nxT tp sz lm) q.2 1 400 with
        | error er =>
          rw [e2] at h
          exact fun I' J' g1 g2 g3 => br_t rfl (h I' J' g1 g2 (fB_tr f12 g3 (by decide)))
        | ok z =>
          rw [e2] at h
          intro I3 J3 q3 R3 s9 s10 f3
          refine br_f (by decide) (h I3 J3 ⟨?_, fun _ => ?_, fun _ => ⟨?_, q3⟩, fun _ => ⟨?_, ?_⟩, fun a => (by cases a)⟩ R3 (s9.trans (r9.trans q9)) (s10.trans (r10.trans q10)) (fB_tr f12 f3 (by decide)))
          · rw [f3.1 _ _ (by decide) (by omega), f12.1 _ _ (by decide) (by omega)]; exact h23
          · rw [f3.1 _ _ (by decide) (by omega), f2.1 _ _ (by decide) (by omega)]; exact q1.1
          · rw [f3.1 _ _ (by decide) (by omega), f2.1 _ _ (by decide) (by omega)]; exact q1.2
          · rw [f3.1 _ _ (by decide) (by omega)]; exact q2.1
          · rw [f3.1 _ _ (by decide) (by omega)]; exact q2.2
  | 4, _, h, h23 =>
    refine ⟨fun z => absurd z (by decide), fun z => absurd z (by decide), fun z => absurd z (by decide), fun _ => C_bAmt (d := d + 1) (b := 39) (by decide) hX hP R hi h4 (bP_01 ?_), fun _ _ _ z => absurd rfl z⟩
    unfold pBr at h
    cases e2 : rdN (nxT tp sz lm) t 1 39 with
    | error er =>
      rw [e2] at h
      exact fun I' J' g1 g2 g3 => h I' J' g1 g2 (fB_w g3 (by decide))
    | ok z =>
      rw [e2] at h
      intro I2 J2 q2 R2 r9 r10 f2
      refine h I2 J2 ⟨?_, fun a => (by rcases a with a | a | a <;> cases a), fun a => (by rcases a with a | a <;> cases a), fun a => (by cases a), fun _ => q2⟩ R2 r9 r10 (fB_w f2 (by decide))
      rw [f2.1 _ _ (by decide) (by omega)]; exact h23
  | w + 5, hw, _, _ => exact absurd hw (by omega)
end Bk7
