/-! the class: a COND is read -/
section Sen9
variable {G : gG} {d : Nat} {I I0 : sI} {J J0 : sJ} {P : sP} {K : sK} {n : Nat} {F : Int32 → sI → sJ → Prop} {FV : sI → sJ → Prop} {sz lm : Nat} {tp : Nat → Nat} {t : tokT} {hd : Nat → Nat} {nm : Nat → List Nat} {a s l : Nat} {q : sgT}
theorem kp9_tr {I I' I2 : sI} {J J' J2 : sJ} (h : kp9 a s I I' J J') (h2 : kp9 a s I' I2 J' J2) : kp9 a s I I2 J J2 := ⟨h2.1.trans h.1, h2.2.1.trans h.2.1, fun x k e1 e2 e3 => (h2.2.2.1 x k e1 e2 e3).trans (h.2.2.1 x k e1 e2 e3), fun x k e => (h2.2.2.2 x k e).trans (h.2.2.2 x k e)⟩
theorem frS9_k {I I' I2 : sI} {J J' J2 : sJ} (h : kp9 a s I I' J J') (h2 : frS9 a s I' I2 J' J2) : frS9 a s I I2 J J2 := ⟨fun x k e1 e2 e3 => (h2.1 x k e1 e2 e3).trans (h.2.2.1 x k e1 e2 e3), fun x k e => (h2.2 x k e).trans (h.2.2.2 x k e)⟩
theorem lyB_k {I' : sI} {J' : sJ} (p : ap9 a s l) (Y : lyB P K I J l hd nm) (k : kp9 a s I I' J J') : lyB P K I' J' l hd nm := by
  obtain ⟨p1, p2, p3, p4, p5, p6⟩ := p
  obtain ⟨h1, h2, h3, h4, h5⟩ := Y
  exact ⟨h1, h2, (k.2.2.1 _ _ (by omega) (by omega) (by omega)).trans h3, h4, fun s hs => ⟨(k.2.2.2 _ _ (by omega)).trans (h5 s hs).1, (h5 s hs).2⟩⟩
/-- what readOne must be -/
def ON (G : gG) (D : Nat) (P : sP) (K : sK) (n sz lm : Nat) (tp hd : Nat → Nat) (nm : Nat → List Nat) (a s l x : Nat) (sd : sgT → tokT → pE (sgT × tokT)) : Prop := ∀ (I : sI) (J : sJ) (q : sgT) (t : tokT) (F : Int32 → sI → sJ → Prop), rP6 I J sz lm tp t → lyB P K I J l hd nm → rS9 I a s q → q.2 ≤ 20 → q.1.length ≤ 2 * q.2 → sP9 a s I J sz lm tp F (sd q t) → ckI G D mX9_readOne [.ref a, .int (nI x)] I J P K n F
def nb (b : Bool) : Nat := if b then 1 else 0
theorem C_cond7 {x D : Nat} {sd : sgT → tokT → pE (sgT × tokT)} (hX : shX P K) (hP : P 2 0 = some 1) (hT : shT P K a l s) (hL : shL P K l) (hN : shN P K s) (p : ap9 a s l) (ok : okSd sd) (hD : 8 ≤ D) (hO : ON G D P K n sz lm tp hd nm a s l x sd) : ∀ (f : Nat) (ba bo : Bool) (q : sgT) (t : tokT) (I : sI) (J : sJ), q.2 ≤ 20 → 21 ≤ f + q.2 → f ≤ 21 → q.1.length + nb ba + nb bo ≤ 2 * q.2 → rP6 I J sz lm tp t → lyB P K I J l hd nm → rS9 I a s q → kp9 a s I0 I J0 J → sP9 a s I0 J0 sz lm tp F (pMg (nxT tp sz lm) sd f ba bo q t) → Ok G (D + 1) mX9_readCond 7 [some (.ref a), some (.int (nI x)), some (.int (b01 ba)), some (.int (b01 bo)), some (.int (nI (21 - f)))] [] I J P K n (kI P K n F) := by
  obtain ⟨D', rfl⟩ : ∃ D', D = D' + 5 := ⟨D - 5, by omega⟩
  obtain ⟨p1, p2, p3, p4, p5, p6⟩ := id p
  intro f
  induction f with
  | zero => intro ba bo q t I J h1 h2; omega
  | succ f ih =>
    intro ba bo q t I J h1 h2 h3 h4 R Y A kp h
    simp only [pMg] at h
    refine bX9_readCond_7 hX _ _ _ _ _ hT hL hN (br_f (nI_nlt (a := 20) (by omega) (by decide)) (hO I J q t _ R Y A h1 (by omega) ?_))
    cases e : sd q t with
    | error er =>
      rw [e] at h
      exact fun I' J' g1 g2 g3 => br_t rfl (h I' J' g1 g2 (frS9_k kp g3))
    | ok r =>
      rw [e] at h
      dsimp only at h
      obtain ⟨seg, o1, o2, o3, o4⟩ := ok q t r h1 e
      have len1 : r.1.1.length + 1 + nb ba + nb bo ≤ 2 * r.1.2 := by
        rw [o1, List.length_append]
        omega
      intro I1 J1 A1 R1 kp1
      have Y1 := lyB_k p Y kp1
      have kpA := kp9_tr kp kp1
      have x4 : nI (21 - (f + 1)) + 1 = nI (21 - f) := by rw [nI_1]; congr 1; omega
      have k39 : ∀ (I2 : sI), rS9 I2 a s (sAd ba 11 r.1) → rP6 I2 J1 sz lm tp r.2 → lyB P K I2 J1 l hd nm → kp9 a s I0 I2 J0 J1 → (sAd ba 11 r.1).1.length + 1 + nb bo ≤ 2 * r.1.2 → Ok G (D' + 5 + 1) mX9_readCond 39 [some (.ref a), some (.int (nI x)), none, some (.int (b01 bo)), some (.int (nI (21 - (f + 1))))] [] I2 J1 P K n (kI P K n F) := by
        intro I2 A2 R2 Y2 kp2 len2
        refine bX9_readCond_39 hX _ _ _ _ hT hL hN ?_
        have w8 : I2 2 8 = oWh (wI r.2) := R2.2.1.2.2.2.2.2
        by_cases ca : isW r.2 11 = true
        · rw [if_pos ca] at h
          have ew : wI r.2 = some 11 := by
            rw [isW_wI (by decide)] at ca
            exact of_decide_eq_true ca
          have e8 : I2 2 8 = 11 := by rw [w8, ew]; rfl
          have k76 : Ok G (D' + 5 + 1) mX9_readCond 76 [some (.ref a), some (.int (nI x)), some (.int 1), some (.int (b01 bo)), some (.int (nI (21 - (f + 1))))] [] I2 J1 P K n (kI P K n F) := by
            refine bX9_readCond_76 hX _ _ _ _ _ hT hL hN (br_f (by decide) (bX9_readCond_94 hX _ _ _ _ _ hT hL hN ?_))
            rw [x4]
            have go : ∀ (I3 : sI) (J3 : sJ), rP6 I3 J3 sz lm tp (nxT tp sz lm r.2) → fr6 I2 I3 J1 J3 → Ok G (D' + 5 + 1) mX9_readCond 7 [some (.ref a), some (.int (nI x)), some (.int (b01 true)), some (.int (b01 bo)), some (.int (nI (21 - f)))] [] I3 J3 P K n (kI P K n F) := fun I3 J3 R3 f3 => ih true bo _ _ I3 J3 (by rw [sAd_2]; exact o4) (by rw [sAd_2]; omega) (by omega) (by rw [sAd_2]; show _ + 1 + _ ≤ _; omega) R3 (lyB_9 Y2 (fr9_6 f3)) (rS9_9 p A2 (fr9_6 f3)) (kp9_9 kp2 (fr9_6 f3)) h
            refine b01n (fun eb => ?_) (fun eb => C_nx (d := D') hX hP R2 (fun I3 J3 R3 f3 => ?_))
            · refine br_f (by rw [e8]; decide) (C_nx (d := D') hX hP R2 (fun I3 J3 R3 f3 => ?_))
              have := go I3 J3 R3 f3
              rw [eb] at this
              exact this
            · have := go I3 J3 R3 f3
              rw [eb] at this
              exact this
          exact br_t e8 ⟨fun _ => k76, fun _ => br_f (by decide) k76⟩
        · rw [if_neg ca] at h
          have n8 : ¬ I2 2 8 = 11 := by
            rw [w8]
            intro z
            apply ca
            rw [isW_wI (by decide), decide_eq_true_eq]
            cases ew : wI r.2 with
            | none => rw [ew] at z; exact absurd z (by decide)
            | some k =>
              rw [ew] at z
              have hk := (wI_2 ew).2
              have : k = 11 := (nI_eq (b := 11) (by omega) (by decide)).mp z
              rw [this]
          have k76 : ∀ (I3 : sI), rS9 I3 a s (sAd bo 10 (sAd ba 11 r.1)) → rP6 I3 J1 sz lm tp r.2 → lyB P K I3 J1 l hd nm → kp9 a s I0 I3 J0 J1 → (sAd bo 10 (sAd ba 11 r.1)).1.length + 1 ≤ 2 * r.1.2 → Ok G (D' + 5 + 1) mX9_readCond 76 [some (.ref a), some (.int (nI x)), some (.int 0), some (.int (b01 bo)), some (.int (nI (21 - (f + 1))))] [] I3 J1 P K n (kI P K n F) := by
            intro I3 A3 R3 Y3 kp3 len3
            have w83 : I3 2 8 = oWh (wI r.2) := R3.2.1.2.2.2.2.2
            refine bX9_readCond_76 hX _ _ _ _ _ hT hL hN (br_t rfl ?_)
            by_cases co : isW r.2 10 = true
            · rw [if_pos co] at h
              have ew : wI r.2 = some 10 := by
                rw [isW_wI (by decide)] at co
                exact of_decide_eq_true co
              have e8 : I3 2 8 = 10 := by rw [w83, ew]; rfl
              refine br_t e8 (bX9_readCond_94 hX _ _ _ _ _ hT hL hN ?_)
              rw [x4]
              have go : ∀ (I4 : sI) (J4 : sJ), rP6 I4 J4 sz lm tp (nxT tp sz lm r.2) → fr6 I3 I4 J1 J4 → Ok G (D' + 5 + 1) mX9_readCond 7 [some (.ref a), some (.int (nI x)), some (.int (b01 false)), some (.int (b01 true)), some (.int (nI (21 - f)))] [] I4 J4 P K n (kI P K n F) := fun I4 J4 R4 f4 => ih false true _ _ I4 J4 (by rw [sAd_2, sAd_2]; exact o4) (by rw [sAd_2, sAd_2]; omega) (by omega) (by rw [sAd_2, sAd_2]; show _ + 0 + 1 ≤ _; omega) R4 (lyB_9 Y3 (fr9_6 f4)) (rS9_9 p A3 (fr9_6 f4)) (kp9_9 kp3 (fr9_6 f4)) h
              exact ⟨fun _ => br_t e8 (C_nx (d := D') hX hP R3 (fun I4 J4 R4 f4 => go I4 J4 R4 f4)), fun _ => C_nx (d := D') hX hP R3 (fun I4 J4 R4 f4 => go I4 J4 R4 f4)⟩
            · rw [if_neg co] at h
              refine br_f ?_ (h I3 J1 A3 R3 kp3)
              rw [w83]
              intro z
              apply co
              rw [isW_wI (by decide), decide_eq_true_eq]
              cases ew : wI r.2 with
              | none => rw [ew] at z; exact absurd z (by decide)
              | some k =>
                rw [ew] at z
                have hk := (wI_2 ew).2
                have : k = 10 := (nI_eq (b := 10) (by omega) (by decide)).mp z
                rw [this]
          refine br_f n8 (b01n (fun eb => ?_) (fun eb => br_t rfl ?_))
          · have := k76 I2 (by rw [eb]; exact A2) R2 Y2 kp2 (by rw [eb]; show (sAd ba 11 r.1).1.length + 1 ≤ _; rw [eb] at len2; have : nb false = 0 := rfl; omega)
            exact this
          · rw [eb] at len2
            have nb1 : nb true = 1 := rfl
            refine C_add (a := 10) (b := 0) (e := 0) hN A2.1 (by omega) (fun I3 R3 f3 => ?_)
            have kq : kp9 a s I2 I3 J1 J1 := kp9_s (by omega) (kp9_rf a s I2 J1) f3
            have := k76 I3 (by rw [eb]; exact ⟨R3, (f3 _ _ (by omega)).trans A2.2⟩) (rP6_of R2 (fun y k hy => f3 y k (by omega)) rfl) (lyB_k p Y2 kq) (kp9_tr kp2 kq) (by rw [eb]; show ((sAd ba 11 r.1).1 ++ [(10, 0, 0)]).length + 1 ≤ _; rw [List.length_append]; show _ + 1 + 1 ≤ _; omega)
            exact this
      refine br_f (show ¬ (1 : Int32) = 0 by decide) (b01n (fun eb => ?_) (fun eb => ?_))
      · rw [eb] at len1
        have nb0 : nb false = 0 := rfl
        exact k39 I1 (by rw [eb]; exact A1) R1 Y1 kpA (by rw [eb]; show r.1.1.length + 1 + _ ≤ _; omega)
      · rw [eb] at len1
        have nb1 : nb true = 1 := rfl
        refine C_add (a := 11) (b := 0) (e := 0) hN A1.1 (by omega) (fun I3 R3 f3 => ?_)
        have kq : kp9 a s I1 I3 J1 J1 := kp9_s (by omega) (kp9_rf a s I1 J1) f3
        exact k39 I3 (by rw [eb]; exact ⟨R3, (f3 _ _ (by omega)).trans A1.2⟩) (rP6_of R1 (fun y k hy => f3 y k (by omega)) rfl) (lyB_k p Y1 kq) (kp9_tr kpA kq) (by rw [eb]; show (r.1.1 ++ [(11, 0, 0)]).length + 1 + _ ≤ _; rw [List.length_append]; show _ + 1 + 1 + _ ≤ _; omega)
end Sen9
