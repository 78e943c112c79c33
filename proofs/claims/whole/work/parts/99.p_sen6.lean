/-! the class: a ONE, a SENTENCE is read -/
section Sen10
variable {G : gG} {d : Nat} {I I0 : sI} {J J0 : sJ} {P : sP} {K : sK} {n : Nat} {F : Int32 → sI → sJ → Prop} {FV : sI → sJ → Prop} {sz lm : Nat} {tp : Nat → Nat} {t : tokT} {hd : Nat → Nat} {nm : Nat → List Nat} {a s l : Nat} {q : sgT}
theorem sP9_k {r : pE (sgT × tokT)} (k : kp9 a s I0 I J0 J) (h : sP9 a s I0 J0 sz lm tp F r) : sP9 a s I J sz lm tp F r := by
  cases r with
  | error e => exact fun I' J' g1 g2 g3 => h I' J' g1 g2 (frS9_k k g3)
  | ok p => exact fun I' J' g1 g2 g3 => h I' J' g1 g2 (kp9_tr k g3)
theorem C_readCond {x D : Nat} {sd : sgT → tokT → pE (sgT × tokT)} (hX : shX P K) (hP : P 2 0 = some 1) (hT : shT P K a l s) (hL : shL P K l) (hN : shN P K s) (p : ap9 a s l) (ok : okSd sd) (hD : 8 ≤ D) (hO : ON G D P K n sz lm tp hd nm a s l x sd) (R : rP6 I J sz lm tp t) (Y : lyB P K I J l hd nm) (A : rS9 I a s q) (h20 : q.2 ≤ 20) (hl : q.1.length ≤ 2 * q.2) (h : sP9 a s I J sz lm tp F (pOrW (nxT tp sz lm) sd q t)) : ckI G (D + 1) mX9_readCond [.ref a, .int (nI x)] I J P K n F := by
  rw [or_mg ok q t h20] at h
  have nb0 : nb false = 0 := rfl
  exact bX9_readCond_0 _ _ hT hL hN (C_cond7 (I0 := I) (J0 := J) hX hP hT hL hN p ok hD hO 21 false false q t I J h20 (by omega) (by omega) (by omega) R Y A (kp9_rf a s I J) h)
theorem C_fl {k : Nat} (hX : shX P K) (R : rP6 I J sz lm tp t) (hk : fau t k = k) (h : sP9 a s I J sz lm tp F (fl t k)) : ckI G d mX6_fail [.ref 2, .int (nI k)] I J P K n (fun v I' J' => (v = 0 ∨ v = 1) ∧ F v I' J') :=
  C_failF hX R (fun I' g1 g2 g3 => h I' J (by rw [g1]; show _ = nI (fau t k); rw [hk]) g2 (kp9_F (kp9_rf a s I J) g3))
theorem stW_1 {t : tokT} (h : stW t = true) : fau t 4 = 4 ∧ (isS t 40 = false → ∃ w, wI t = some w ∧ 12 ≤ w) := by
  unfold stW at h
  have key : (isS t 40 = true ∧ t.1 = 4) ∨ ∃ w, wI t = some w ∧ 12 ≤ w := by
    cases e : isS t 40 with
    | true =>
      refine Or.inl ⟨rfl, ?_⟩
      unfold isS at e
      rw [Bool.and_eq_true, decide_eq_true_eq] at e
      exact e.1
    | false =>
      rw [e, Bool.false_or] at h
      cases ew : wI t with
      | none => rw [ew] at h; cases h
      | some w => rw [ew] at h; exact Or.inr ⟨w, rfl, of_decide_eq_true h⟩
  refine ⟨?_, fun e => ?_⟩
  · unfold fau
    rcases key with k | ⟨w, k, -⟩
    · rw [if_neg (by omega)]
    · rw [if_neg (by have := (wI_2 k).1; omega)]
  · rcases key with k | k
    · rw [e] at k; cases k.1
    · exact k
theorem C_one0 {x D : Nat} (hX : shX P K) (hT : shT P K a l s) (hL : shL P K l) (hN : shN P K s) (R : rP6 I J sz lm tp t) (hb : stW t = false → sP9 a s I J sz lm tp F (fl t 1)) (hg : stW t = true → Ok G (D + 1) mX9_readOne 51 [some (.ref a), some (.int (nI x)), some (.int (oWh (wI t))), some (.int (b01 (isS t 40)))] [] I J P K n (kI P K n F)) : ckI G (D + 1) mX9_readOne [.ref a, .int (nI x)] I J P K n F := by
  refine bX9_readOne_0 hX _ _ hT hL hN ?_
  rw [R.2.1.2.2.1, R.2.1.2.2.2.2.2]
  have e40 := kd6_S (c := 40) (by decide) (by decide) R.2.2.1
  cases e : isS t 40 with
  | true =>
    rw [e] at hg
    refine br_t (e40.mpr e) (br_f (by decide) (hg ?_))
    unfold stW
    rw [e]
    rfl
  | false =>
    rw [e] at hg
    refine br_f (fun z => by rw [e40.mp z] at e; cases e) (br_t rfl ?_)
    cases ew : wI t with
    | none =>
      have es : stW t = false := by unfold stW; rw [e, ew]; rfl
      exact br_t (by decide) (C_fl (k := 1) hX R fau_1 (hb es))
    | some w =>
      have es : stW t = decide (12 ≤ w) := by unfold stW; rw [e, ew]; rfl
      rw [ew] at hg
      have hw := (wI_2 ew).2
      show (nI w < 12 → _) ∧ (¬ nI w < 12 → _)
      by_cases c : 12 ≤ w
      · rw [decide_eq_true c] at es
        exact br_f (nI_nlt (b := 12) c (by omega)) (br_t (nI_le (b := 21) (by omega) (by decide)) (hg es))
      · rw [decide_eq_false c] at es
        exact br_t (nI_lt (b := 12) (by omega) (by decide)) (C_fl (k := 1) hX R fau_1 (hb es))
theorem C_one (hX : shX P K) (hP : P 2 0 = some 1) (hT : shT P K a l s) (hL : shL P K l) (hN : shN P K s) (p : ap9 a s l) : ∀ (dep d x : Nat), x + dep = 9 → 2 * dep + 8 ≤ d → ON G d P K n sz lm tp hd nm a s l x (pSd (nxT tp sz lm) hd nm dep) := by
  intro dep
  obtain ⟨p1, p2, p3, p4, p5, p6⟩ := id p
  induction dep with
  | zero =>
    intro d x hx hd' I J q t F R Y A h20 hlen h
    obtain ⟨D, rfl⟩ : ∃ D, d = D + 1 := ⟨d - 1, by omega⟩
    simp only [pSd] at h
    refine C_one0 hX hT hL hN R (fun e => by rw [if_neg (by rw [e]; decide)] at h; exact h) (fun e => ?_)
    rw [if_pos e] at h
    have f4 := (stW_1 e).1
    refine bX9_readOne_51 hX _ _ _ _ hT hL hN ?_
    rw [A.2]
    exact ⟨fun _ => C_fl (k := 4) hX R f4 h, fun _ => br_f (nI_ge (a := 8) (by omega) (by omega)) (C_fl (k := 4) hX R f4 h)⟩
  | succ dep ih =>
    intro d x hx hd' I J q t F R Y A h20 hlen h
    obtain ⟨D, rfl⟩ : ∃ D, d = D + 1 := ⟨d - 1, by omega⟩
    obtain ⟨E, rfl⟩ : ∃ E, D = E + 8 := ⟨D - 8, by omega⟩
    simp only [pSd] at h
    refine C_one0 hX hT hL hN R (fun e => by rw [if_neg (by rw [e]; decide)] at h; exact h) (fun e => ?_)
    rw [if_pos e] at h
    have f4 := (stW_1 e).1
    refine bX9_readOne_51 hX _ _ _ _ hT hL hN ?_
    rw [A.2, nI_1]
    by_cases c20 : q.2 = 20
    · rw [if_pos c20] at h
      exact br_t (nI_le (a := 20) (by omega) (by omega)) (C_fl (k := 4) hX R f4 h)
    · rw [if_neg c20] at h
      have kp1 : kp9 a s I (u2 I a 3 (nI (q.2 + 1))) J J := ⟨u2_a _ _ _ _ (by omega), u2_a _ _ _ _ (by omega), fun y k h1 h2 h3 => by simp only [u2]; rw [if_neg h2], fun _ _ _ => rfl⟩
      have A1 : rS9 (u2 I a 3 (nI (q.2 + 1))) a s (q.1, q.2 + 1) := ⟨rN6_of A.1 (fun y k h1 h2 => u2_a _ _ _ _ (by omega)), u2_s _ _ _ _⟩
      refine br_f (nI_ge (b := 20) (by omega) (by decide)) (br_t (nI_le (b := 8) (by omega) (by decide)) (C_nx (d := E + 3) hX hP (rP6_o R _ (by omega)) (fun I2 J2 R2 f2 => ?_)))
      have kp2 := kp9_9 kp1 (fr9_6 f2)
      have A2 := rS9_9 p A1 (fr9_6 f2)
      have Y2 := lyB_k p Y kp2
      have h2 := sP9_k kp2 h
      rw [nI_1]
      cases eb : isS t 40 with
      | true =>
        rw [eb, if_pos rfl] at h2
        refine br_f (by decide) (C_readCond (D := E + 7) (q := (q.1, q.2 + 1)) hX hP hT hL hN p (okSd_d _ _ _ dep) (by omega) (ih (E + 7) (x + 1) (by omega) (by omega)) R2 Y2 A2 (by show q.2 + 1 ≤ 20; omega) (by show q.1.length ≤ 2 * (q.2 + 1); omega) ?_)
        cases eo : pOrW (nxT tp sz lm) (pSd (nxT tp sz lm) hd nm dep) (q.1, q.2 + 1) (nxT tp sz lm t) with
        | error er =>
          rw [eo] at h2
          exact fun I' J' g1 g2 g3 => br_t rfl (h2 I' J' g1 g2 g3)
        | ok r =>
          rw [eo] at h2
          dsimp only at h2
          intro I3 J3 A3 R3 kp3
          have h3 := sP9_k kp3 h2
          refine br_f (by decide) (C_takeSign (d := E + 2) (c := 41) (by decide) (by decide) hX hP R3 (fun es I' g1 g2 g3 => br_t rfl ?_) (fun es I4 J4 R4 f4 => br_f (by decide) ?_))
          · rw [if_neg (by rw [es]; decide)] at h3
            exact h3 I' J3 (by rw [g1]; show _ = nI (fau _ 1); rw [fau_1]; rfl) g2 (kp9_F (kp9_rf a s I3 J3) g3)
          · rw [if_pos es] at h3
            exact h3 I4 J4 (rS9_9 p A3 (fr9_6 f4)) R4 (kp9_9 (kp9_rf a s I3 J3) (fr9_6 f4))
      | false =>
        rw [eb, if_neg (by decide)] at h2
        obtain ⟨w, ew, hw⟩ := (stW_1 e).2 eb
        have hw2 := (wI_2 ew).2
        rw [ew] at h2 ⊢
        dsimp only at h2
        refine br_t rfl ?_
        show (nI w = 12 → _) ∧ (¬ nI w = 12 → _)
        by_cases c12 : w = 12
        · rw [if_pos c12] at h2
          refine br_t (by rw [c12]; rfl) (ih (E + 8) (x + 1) (by omega) (by omega) I2 J2 (q.1, q.2 + 1) _ _ R2 Y2 A2 (by show q.2 + 1 ≤ 20; omega) (by show q.1.length ≤ 2 * (q.2 + 1); omega) ?_)
          cases eo : pSd (nxT tp sz lm) hd nm dep (q.1, q.2 + 1) (nxT tp sz lm t) with
          | error er =>
            rw [eo] at h2
            exact fun I' J' g1 g2 g3 => br_t rfl (h2 I' J' g1 g2 g3)
          | ok r =>
            rw [eo] at h2
            intro I3 J3 A3 R3 kp3
            obtain ⟨seg, o1, o2, o3, o4⟩ := okSd_d (nxT tp sz lm) hd nm dep (q.1, q.2 + 1) _ r (by show q.2 + 1 ≤ 20; omega) eo
            have hl3 : r.1.1.length < 40 := by
              rw [o1, List.length_append]
              dsimp only at o2 o3 ⊢
              omega
            refine br_f (by decide) (C_add (a := 12) (b := 0) (e := 0) hN A3.1 hl3 (fun I4 R4 f4 => h2 I4 J3 ⟨R4, (f4 _ _ (by omega)).trans A3.2⟩ (rP6_of R3 (fun y k hy => f4 y k (by omega)) rfl) (kp9_s (by omega) kp3 f4)))
        · rw [if_neg c12] at h2
          refine br_f (fun z => c12 ((nI_eq (b := 12) (by omega) (by decide)).mp z)) (C_readPlain (d := E + 1) (I0 := I2) (J0 := J2) (q := (q.1, q.2 + 1)) (by omega) hX hP hT hL hN p Y2 R2 A2 (by show q.1.length < 40; omega) (kp9_rf a s I2 J2) ?_)
          cases eo : pPl (nxT tp sz lm) hd nm w (nxT tp sz lm t) with
          | error er =>
            rw [eo] at h2
            exact fun I' J' g1 g2 g3 => ⟨Or.inl rfl, h2 I' J' g1 g2 g3⟩
          | ok r =>
            rw [eo] at h2
            exact fun I' J' g1 g2 g3 => ⟨Or.inr rfl, h2 I' J' g1 g2 g3⟩
end Sen10
