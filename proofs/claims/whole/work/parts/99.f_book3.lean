/-! the class: the lines of a book, one behind another -/
theorem wB_wI {t : tokT} : wB t = match wI t with
    | some k => if 5 ≤ k ∧ k ≤ 9 then some (k - 5) else none
    | none => none := by
  unfold wB
  simp only [isW_wI (show 5 < 22 by decide), isW_wI (show 6 < 22 by decide), isW_wI (show 7 < 22 by decide), isW_wI (show 8 < 22 by decide), isW_wI (show 9 < 22 by decide)]
  cases wI t with
  | none => rfl
  | some k =>
    by_cases h : 5 ≤ k ∧ k ≤ 9
    · dsimp only
      rw [if_pos h]
      obtain rfl | rfl | rfl | rfl | rfl : k = 5 ∨ k = 6 ∨ k = 7 ∨ k = 8 ∨ k = 9 := by omega
      all_goals rfl
    · dsimp only
      rw [if_neg h]
      have n : ∀ j, 5 ≤ j → j ≤ 9 → ¬ (some k = some j) := fun j a b z => by cases z; exact h ⟨a, b⟩
      rw [decide_eq_false (n 5 (by decide) (by decide)), decide_eq_false (n 6 (by decide) (by decide)), decide_eq_false (n 7 (by decide) (by decide)), decide_eq_false (n 8 (by decide) (by decide)), decide_eq_false (n 9 (by decide) (by decide))]
      rfl
theorem rB6_eq {I I' : sI} {j : Nat} {b : bL} (h : ∀ c, 23 ≤ c → c ≤ 28 → I' c j = I c j) (r : rB6 I j b) : rB6 I' j b := by
  obtain ⟨r1, r2, r3, r4, r5⟩ := r
  exact ⟨(h _ (by decide) (by decide)).trans r1, fun a => (h _ (by decide) (by decide)).trans (r2 a), fun a => ⟨(h _ (by decide) (by decide)).trans (r3 a).1, (h _ (by decide) (by decide)).trans (r3 a).2⟩, fun a => ⟨(h _ (by decide) (by decide)).trans (r4 a).1, (h _ (by decide) (by decide)).trans (r4 a).2⟩, fun a => (h _ (by decide) (by decide)).trans (r5 a)⟩
def fBk (I I' : sI) (J J' : sJ) : Prop := (∀ c k, c ≠ 2 → ¬ (23 ≤ c ∧ c ≤ 28) → ¬ (c = 22 ∧ k = 6) → I' c k = I c k) ∧ ∀ c k, ¬ (c = 2 ∧ k = 7) → J' c k = J c k
def bQ6 (I0 : sI) (J0 : sJ) (F : Int32 → sI → sJ → Prop) (r : pE (Nat × (Nat → bL))) : Prop := match r with
  | .error e => ∀ I' J', I' 2 9 = nI e.1 → I' 2 10 = nI e.2 → (∀ j, j < 40 → rgB I' j) → fBk I0 I' J0 J' → F 0 I' J'
  | .ok p => ∀ I' J', I' 22 6 = nI p.1 → (∀ j, j < p.1 → rB6 I' j (p.2 j)) → (∀ j, j < 40 → rgB I' j) → I' 2 9 = I0 2 9 → I' 2 10 = I0 2 10 → fBk I0 I' J0 J' → F 1 I' J'
section Bk8
variable {G : gG} {d : Nat} {I I0 : sI} {J J0 : sJ} {P : sP} {K : sK} {n : Nat} {F : Int32 → sI → sJ → Prop} {FV : sI → sJ → Prop} {sz lm : Nat} {tp : Nat → Nat} {t : tokT} {hd : Nat → Nat} {nm : Nat → List Nat} {l i : Nat}
theorem C_bRead5 (hX : shX P K) (hP : P 2 0 = some 1) : ∀ (fu cn : Nat) (ls : Nat → bL) (t : tokT) (I : sI) (J : sJ), cn + fu = 41 → cn ≤ 40 → rP6 I J sz lm tp t → lyB P K I J l hd nm → I 22 6 = nI cn → (∀ j, j < cn → rB6 I j (ls j)) → (∀ j, j < 40 → rgB I j) → I 2 9 = I0 2 9 → I 2 10 = I0 2 10 → fBk I0 I J0 J → bQ6 I0 J0 F (pBk (nxT tp sz lm) hd nm fu cn ls t) → Ok G (d + 10) mX0_read 5 [some (.ref 22), some (.ref 2), some (.ref l)] [] I J P K n (kI P K n F) := by
  intro fu
  induction fu with
  | zero => intro cn ls t I J h1 h2; omega
  | succ fu ih =>
    intro cn ls t I J h1 h2 R Y e6 B rg e9 e10 fr h
    have e0 : (kd6 t = 0) ↔ (if t.1 = 4 then t.2.2.2.1 else t.1) = 0 := kd6_eq (k := 0) R.2.2.1 (by decide)
    simp only [pBk] at h
    refine bX0_read_5 hX _ ?_
    rw [e6, R.2.1.2.2.1, R.2.1.2.2.2.2.2]
    refine br_f (nI_nlt (a := 40) h2 (by decide)) ?_
    by_cases c0 : t.1 = 0
    · rw [if_pos c0] at h
      exact br_t (e0.mpr (by rw [if_neg (by omega)]; exact c0)) (h I J e6 B rg e9 e10 fr)
    · rw [if_neg c0] at h
      refine br_f (fun z => ?_) ?_
      · have z := e0.mp z
        split at z
        · rename_i q; have := sgn_ge (R.2.2.2 q); omega
        · exact c0 z
      have bad : ∀ (k : Nat), fau t k = k → bQ6 I0 J0 F (fl t k) → ckI G (d + 9) mX6_fail [.ref 2, .int (nI k)] I J P K n (fun v I' J' => (v = 0 ∨ v = 1) ∧ F v I' J') := fun k hk hb => C_failF hX R (fun I' g1 g2 g3 => hb I' J (by rw [g1]; show _ = nI (fau t k); rw [hk]) g2 (fun j hj => rgB_eq (fun c hc => g3 c j (by omega)) (rg j hj)) ⟨fun c k a1 a2 a3 => (g3 c k (by omega)).trans (fr.1 c k a1 a2 a3), fr.2⟩)
      unfold pBl at h
      rw [wB_wI] at h
      cases ew : wI t with
      | none =>
        rw [ew] at h
        exact br_t (by decide) (bad 1 fau_1 h)
      | some k =>
        rw [ew] at h
        dsimp only at h
        have k22 := (wI_2 ew).2
        have t2 := (wI_2 ew).1
        show (nI k < 5 → _) ∧ (¬ nI k < 5 → _)
        by_cases c1 : k < 5
        · rw [if_neg (by omega)] at h
          exact br_t (nI_lt (b := 5) c1 (by decide)) (bad 1 fau_1 h)
        · refine br_f (nI_nlt (b := 5) (by omega) (by omega)) ?_
          by_cases c2 : k ≤ 9
          · rw [if_pos ⟨by omega, c2⟩] at h
            dsimp only at h
            refine br_t (nI_le (b := 9) c2 (by decide)) ?_
            by_cases c3 : cn = 40
            · rw [if_pos c3] at h
              exact br_t (by rw [c3]; rfl) (bad 4 (fau_2 t2) h)
            · rw [if_neg c3] at h
              refine br_f (fun z => c3 ((nI_eq (b := 40) (by omega) (by decide)).mp z)) ⟨nI_inN (by omega) (by decide), ?_⟩
              rw [nI_ck (by omega)]
              refine C_nx (d := d + 4) hX hP (rP6_o R _ (by decide)) (fun I2 J2 R2 f2 => ?_)
              have q2 : ∀ c k', c ≠ 2 → c ≠ 23 → I2 c k' = I c k' := fun c k' a1 a2 => (f2.1 c k' (by omega)).trans (u2_a _ _ _ _ a2)
              have h23 : I2 23 cn = nI (k - 5 + 5) := by rw [f2.1 _ _ (by omega), u2_s, show k - 5 + 5 = k by omega]; rfl
              have hl := Y.2.1
              have Y2 : lyB P K I2 J2 l hd nm := ⟨Y.1, Y.2.1, (q2 _ _ (by omega) (by omega)).trans Y.2.2.1, Y.2.2.2.1, fun s hs => ⟨(f2.2 _ _ (by omega)).trans (Y.2.2.2.2 s hs).1, (Y.2.2.2.2 s hs).2⟩⟩
              have i9 : I2 2 9 = I0 2 9 := by rw [f2.1 _ _ (by omega), u2_a _ _ _ _ (by decide)]; exact e9
              have i10 : I2 2 10 = I0 2 10 := by rw [f2.1 _ _ (by omega), u2_a _ _ _ _ (by decide)]; exact e10
              have rg2 : ∀ j, j < 40 → rgB I2 j := fun j hj => rgB_eq (fun c hc => q2 c j (by omega) (by omega)) (rg j hj)
              have fr2 : fBk I0 I2 J0 J2 := ⟨fun c k' a1 a2 a3 => (q2 c k' a1 (by omega)).trans (fr.1 c k' a1 a2 a3), fun c k' a => (f2.2 c k' a).trans (fr.2 c k' a)⟩
              have B2 : ∀ j, j < cn → rB6 I2 j (ls j) := fun j hj => rB6_eq (fun c a1 a2 => by rw [f2.1 _ _ (by omega)]; simp only [u2]; rw [if_neg (by omega)]) (B j hj)
              have rgx : ∀ {I' : sI} {J' : sJ}, fB 24 28 cn I2 I' J2 J' → ∀ j, j < 40 → rgB I' j := fun {I' J'} f j hj => by
                by_cases e : j = cn
                · subst e; exact f.2.2 (rg2 j hj)
                · exact rgB_eq (fun c hc => f.1 c j (by omega) (by omega)) (rg2 j hj)
              have frx : ∀ {I' : sI} {J' : sJ}, fB 24 28 cn I2 I' J2 J' → fBk I0 I' J0 J' := fun {I' J'} f => ⟨fun c k' a1 a2 a3 => (f.1 c k' a1 (by omega)).trans (fr2.1 c k' a1 a2 a3), fun c k' a => (f.2.1 c k' a).trans (fr2.2 c k' a)⟩
              refine C_bRest (w := k - 5) (by omega) hX hP Y2 R2 ((q2 _ _ (by decide) (by decide)).trans e6) (by omega) h23 ?_
              cases ep : pBr (nxT tp sz lm) hd nm (k - 5) (nxT tp sz lm t) with
              | error er =>
                rw [ep] at h
                exact fun I' J' g1 g2 g3 => br_t rfl (h I' J' g1 g2 (rgx g3) (frx g3))
              | ok p =>
                rw [ep] at h
                dsimp only at h
                intro I3 J3 b3 R3 j9 j10 f3
                refine br_f (by decide) (C_takeSign (d := d + 3) (c := 59) (by decide) (by decide) hX hP R3 (fun es I' g1 g2 g3 => br_t rfl ?_) (fun es I4 J4 R4 f4 => br_f (by decide) ?_))
                · unfold eE at h
                  rw [es, if_neg (by decide)] at h
                  exact h I' J3 (by rw [g1]; show _ = nI (fau _ 1); rw [fau_1]; rfl) g2 (fun j hj => rgB_eq (fun c hc => g3 c j (by omega)) (rgx f3 j hj)) ⟨fun c k' a1 a2 a3 => (g3 c k' (by omega)).trans ((frx f3).1 c k' a1 a2 a3), (frx f3).2⟩
                · unfold eE at h
                  rw [es, if_pos rfl, if_pos rfl] at h
                  have q4 : ∀ c k', c ≠ 2 → I4 c k' = I3 c k' := fun c k' a => f4.1 c k' (by omega)
                  have e64 : I4 22 6 = nI cn := by rw [q4 _ _ (by decide), f3.1 _ _ (by decide) (by omega), q2 _ _ (by decide) (by decide)]; exact e6
                  rw [e64, nI_1]
                  have q5 : ∀ c k', c ≠ 22 → u2 I4 22 6 (nI (cn + 1)) c k' = I4 c k' := fun c k' a => u2_a _ _ _ _ a
                  refine ih (cn + 1) (upL ls cn (k - 5, p.1)) (nxT tp sz lm p.2) _ J4 (by omega) (by omega) (rP6_o R4 _ (by decide)) ?_ (u2_s _ _ _ _) (fun j hj => ?_) (fun j hj => rgB_eq (fun c hc => by rw [q5 _ _ (by omega), q4 _ _ (by omega)]) (rgx f3 j hj)) ?_ ?_ ?_ h
                  · exact ⟨Y.1, Y.2.1, by rw [q5 _ _ (by omega), q4 _ _ (by omega), f3.1 _ _ (by omega) (by omega)]; exact Y2.2.2.1, Y.2.2.2.1, fun s hs => ⟨by rw [f4.2 _ _ (by omega), f3.2.1 _ _ (by omega)]; exact (Y2.2.2.2.2 s hs).1, (Y.2.2.2.2 s hs).2⟩⟩
                  · unfold upL
                    by_cases e : j = cn
                    · rw [if_pos e, e]
                      exact rB6_eq (fun c a1 a2 => by rw [q5 _ _ (by omega), q4 _ _ (by omega)]) b3
                    · rw [if_neg e]
                      exact rB6_eq (fun c a1 a2 => by rw [q5 _ _ (by omega), q4 _ _ (by omega), f3.1 _ _ (by omega) (by omega)]) (B2 j (by omega))
                  · rw [q5 _ _ (by decide), f4.1 _ _ (by omega), j9]; exact i9
                  · rw [q5 _ _ (by decide), f4.1 _ _ (by omega), j10]; exact i10
                  · refine ⟨fun c k' a1 a2 a3 => ?_, fun c k' a => (f4.2 c k' a).trans ((frx f3).2 c k' a)⟩
                    have : u2 I4 22 6 (nI (cn + 1)) c k' = I4 c k' := by simp only [u2]; rw [if_neg a3]
                    rw [this, q4 _ _ a1]
                    exact (frx f3).1 c k' a1 a2 a3
          · rw [if_neg (fun z => c2 z.2)] at h
            exact br_f (nI_ge (a := 9) (by omega) (by omega)) (bad 1 fau_1 h)
theorem C_bRead (hX : shX P K) (hP : P 2 0 = some 1) (R : rP6 I J sz lm tp t) (Y : lyB P K I J l hd nm) (rg : ∀ j, j < 40 → rgB I j) (h : bQ6 I J F (pBk (nxT tp sz lm) hd nm 41 0 (fun _ => bL0) t)) : ckI G (d + 10) mX0_read [.ref 22, .ref 2, .ref l] I J P K n F := by
  have hl := Y.2.1
  refine bX0_read_0 hX _ (C_bRead5 (I0 := I) (J0 := J) hX hP 41 0 (fun _ => bL0) t _ J (by omega) (by decide) (rP6_o R _ (by decide)) ⟨Y.1, Y.2.1, (u2_a _ _ _ _ (by omega)).trans Y.2.2.1, Y.2.2.2⟩ (u2_s _ _ _ _) (fun j hj => absurd hj (Nat.not_lt_zero j)) (fun j hj => rgB_eq (fun c hc => u2_a _ _ _ _ (by omega)) (rg j hj)) (u2_a _ _ _ _ (by decide)) (u2_a _ _ _ _ (by decide)) ⟨fun c k a1 a2 a3 => by simp only [u2]; rw [if_neg a3], fun _ _ _ => rfl⟩ h)
end Bk8
