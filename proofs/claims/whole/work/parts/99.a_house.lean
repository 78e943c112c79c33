/-! the class: a line, a house -/
section Hs9
variable {G : gG} {d : Nat} {I I0 : sI} {J J0 : sJ} {P : sP} {K : sK} {n : Nat} {F : Int32 → sI → sJ → Prop} {FV : sI → sJ → Prop} {sz lm : Nat} {tp : Nat → Nat} {t : tokT} {H : hS} {a c l : Nat}
theorem hP6_01 {r : pE (hS × tokT)} (h : hP6 a c l I0 J0 sz lm tp F r) : hP6 a c l I0 J0 sz lm tp (fun v I J => (v = 0 ∨ v = 1) ∧ F v I J) r := by
  cases r with
  | error e => exact fun I' J' g1 g2 g3 => ⟨Or.inl rfl, h I' J' g1 g2 g3⟩
  | ok p => exact fun I' J' g1 g2 g3 => ⟨Or.inr rfl, h I' J' g1 g2 g3⟩
theorem wI_2 {t : tokT} {k : Nat} (h : wI t = some k) : t.1 = 2 ∧ k < 22 := by
  unfold wI at h
  split at h
  · rename_i q
    exact ⟨q, by have := (fndN_lt h).2.1; omega⟩
  · cases h
theorem C_readLine (hX : shX P K) (hP : P 2 0 = some 1) (hH : shH P K a c l) (hC : shC P K c) (hL : shL P K l) (hc0 : P c 0 = some l) (p : ap6 a c l) (R : rP6 I J sz lm tp t) (A : rH6 I J a c l H) (w0 : wH H) (h : hP6 a c l I J sz lm tp F (pLine (nxT tp sz lm) H t)) : ckI G (d + 8) mX4_readLine [.ref a] I J P K n F := by
  refine bX4_readLine_0 hX _ hH hC hL ?_
  rw [R.2.1.2.2.2.2.2]
  unfold pLine at h
  simp only [isW_wI (show 0 < 22 by decide), isW_wI (show 1 < 22 by decide), isW_wI (show 2 < 22 by decide), isW_wI (show 3 < 22 by decide), isW_wI (show 4 < 22 by decide)] at h
  cases e : wI t with
  | none =>
    rw [e] at h
    exact ⟨fun z => absurd z (by decide), fun z => absurd z (by decide), fun z => absurd z (by decide), fun z => absurd z (by decide), fun z => absurd z (by decide), fun _ _ _ _ _ => C_badH (k := 1) hX R (kp6_rf a c l I J) fau_1 h⟩
  | some k =>
    rw [e] at h
    have t2 := (wI_2 e).1
    have k2 := (wI_2 e).2
    match k, h, k2 with
    | 0, h, _ => exact ⟨fun _ => C_readScale hX hP hH hC hL p R A w0 t2 (hP6_01 h), fun z => absurd z (by decide), fun z => absurd z (by decide), fun z => absurd z (by decide), fun z => absurd z (by decide), fun z => absurd rfl z⟩
    | 1, h, _ => exact ⟨fun z => absurd z (by decide), fun _ => C_readWine hX hP hH hC hL hc0 p R A w0 (hP6_01 h), fun z => absurd z (by decide), fun z => absurd z (by decide), fun z => absurd z (by decide), fun _ z => absurd rfl z⟩
    | 2, h, _ => exact ⟨fun z => absurd z (by decide), fun z => absurd z (by decide), fun _ => C_readYear hX hP hH hC hL p R A t2 (hP6_01 h), fun z => absurd z (by decide), fun z => absurd z (by decide), fun _ _ z => absurd rfl z⟩
    | 3, h, _ => exact ⟨fun z => absurd z (by decide), fun z => absurd z (by decide), fun z => absurd z (by decide), fun _ => C_readAngels hX hP hH hC hL p R A t2 (hP6_01 h), fun z => absurd z (by decide), fun _ _ _ z => absurd rfl z⟩
    | 4, h, _ => exact ⟨fun z => absurd z (by decide), fun z => absurd z (by decide), fun z => absurd z (by decide), fun z => absurd z (by decide), fun _ => C_readMost hX hP hH hC hL p R A t2 (hP6_01 h), fun _ _ _ _ z => absurd rfl z⟩
    | k + 5, h, k2 =>
      have ne : ∀ j, j < 5 → ¬ nI (k + 5) = nI j := fun j hj z => by have := (nI_eq (by omega) (by omega)).mp z; omega
      have h' : hP6 a c l I J sz lm tp F (fl t 1) := by
        simp at h
        exact h
      exact ⟨fun z => absurd z (ne 0 (by decide)), fun z => absurd z (ne 1 (by decide)), fun z => absurd z (ne 2 (by decide)), fun z => absurd z (ne 3 (by decide)), fun z => absurd z (ne 4 (by decide)), fun _ _ _ _ _ => C_badH (k := 1) hX R (kp6_rf a c l I J) fau_1 h'⟩
/-- what a house that is read leaves -/
def hQ6 (a c l : Nat) (I0 : sI) (J0 : sJ) (F : Int32 → sI → sJ → Prop) (r : pE (hS × Nat)) : Prop := match r with
  | .error e => ∀ I' J', I' 2 9 = nI e.1 → I' 2 10 = nI e.2 → frHs a c l I0 I' J0 J' → F 0 I' J'
  | .ok p => ∀ I' J', wH p.1 → rL I' l p.1.1 → rLN J' l p.1.1 p.1.2.1 → rC I' c p.1.1 (stS p.1.1) → I' a 7 = nI p.2 → I' 2 9 = I0 2 9 → I' 2 10 = I0 2 10 → frHs a c l I0 I' J0 J' → F 1 I' J'
theorem rC_hs (p : ap6 a c l) (A : rH6 I J a c l H) (w0 : wH H) : rC (u2 I c 1 (I l 4)) c H.1 (stS H.1) := by
  obtain ⟨⟨l1, l2, l3⟩, N, ⟨k1, k2, k3, k4, k5⟩, -⟩ := A
  have hcs := wf_casks w0.1
  have z : ∀ j, j ≠ 0 → j < 63 → stS H.1 j = 0 := fun j h1 h2 => by unfold stS; rw [if_neg h1, if_pos h2]
  refine ⟨?_, ?_, ?_, fun k v hk hv => ?_, fun k hk => ⟨?_, ?_⟩, fun v hv => ?_⟩
  · rw [u2_s, l1 4 (by decide)]; rfl
  · rw [u2_k _ _ _ _ (by decide), k1, z 1 (by decide) (by decide)]; rfl
  · rw [u2_k _ _ _ _ (by decide), k2, z 2 (by decide) (by decide)]; rfl
  · rw [u2_a _ _ _ _ (by omega), stS_wn]; exact k3 k v (by omega) hv
  · rw [u2_a _ _ _ _ (by omega), hv_ltr]; exact (k4 k (by omega)).1
  · rw [u2_a _ _ _ _ (by omega), z (43 + k) (by omega) (by omega)]; exact (k4 k (by omega)).2
  · rw [u2_a _ _ _ _ (by omega)]
    unfold btl
    rw [z (3 + v) (by omega) (by omega)]
    exact k5 v hv
theorem C_read16 {FQ : Int32 → sI → sJ → sP → sK → Nat → Prop} (hX : shX P K) (hP : P 2 0 = some 1) (hH : shH P K a c l) (hC : shC P K c) (hL : shL P K l) (hc0 : P c 0 = some l) (p : ap6 a c l) : ∀ (fu : Nat) (H : hS) (t : tokT) (cn : Nat) (I : sI) (J : sJ), sz < t.2.2.1 + fu → 2 * cn ≤ t.2.2.1 → (2 ≤ t.1 → 2 * cn + 1 ≤ t.2.2.1) → rP6 I J sz lm tp t → rH6 I J a c l H → wH H → I a 7 = nI cn → I 2 9 = I0 2 9 → I 2 10 = I0 2 10 → frHs a c l I0 I J0 J → hQ6 a c l I0 J0 (fun v I J => FQ v I J P K n) (pHs (nxT tp sz lm) fu H t cn) → Ok G (d + 9) mX4_read 16 [some (.ref a)] [] I J P K n (qI FQ) := by
  intro fu
  induction fu with
  | zero => intro H t cn I J hf _ _ R; have := R.2.2.1.2.1; omega
  | succ fu ih =>
    intro H t cn I J hf hp1 hp2 R A w0 h7 h9 h10 fr h
    obtain ⟨p1, p2, p3, p4, p5, p6⟩ := id p
    have hto := R.2.2.1.2.1
    have hsz := R.1.2.2.1
    have o : okTx tp sz lm := ⟨R.1.2.2.1, R.1.2.2.2.1, fun j hj => (R.1.2.2.2.2 j hj).2⟩
    have e0 : (kd6 t = 0) ↔ (if t.1 = 4 then t.2.2.2.1 else t.1) = 0 := kd6_eq (k := 0) R.2.2.1 (by decide)
    simp only [pHs] at h
    refine bX4_read_16 hX _ hH hC hL ?_
    rw [h7, R.2.1.2.2.1]
    refine br_f (nI_ge (b := 900) (by omega) (by decide)) ?_
    by_cases c0 : t.1 = 0
    · rw [if_pos c0] at h
      refine br_t (e0.mpr (by rw [if_neg (by omega)]; exact c0)) ?_
      have q : ∀ z k, z ≠ c → u2 I c 1 (I l 4) z k = I z k := fun z k hz => u2_a _ _ _ _ hz
      refine h _ _ w0 ⟨fun k hk => (q _ _ (by omega)).trans (A.1.1 k hk), fun s hs => ⟨(q _ _ (by omega)).trans (A.1.2.1 s hs).1, (q _ _ (by omega)).trans (A.1.2.1 s hs).2.1, (q _ _ (by omega)).trans (A.1.2.1 s hs).2.2⟩, fun k hk => (q _ _ (by omega)).trans (A.1.2.2 k hk)⟩ A.2.1 (rC_hs p A w0) ((q _ _ (by omega)).trans h7) ((q _ _ (by omega)).trans h9) ((q _ _ (by omega)).trans h10) ⟨fun z k b1 b2 b3 b4 => (q _ _ (by omega)).trans (fr.1 z k b1 b2 b3 b4), fr.2⟩
    · rw [if_neg c0] at h
      refine br_f (fun z => ?_) (C_readLine hX hP hH hC hL hc0 p R A w0 ?_)
      · have z := e0.mp z
        split at z
        · rename_i q; have := sgn_ge (R.2.2.2 q); omega
        · exact c0 z
      cases hp : pLine (nxT tp sz lm) H t with
      | error er =>
        rw [hp] at h
        exact fun I' J' g1 g2 g3 => br_t rfl (h I' J' g1 g2 ⟨fun z k b1 b2 b3 b4 => (g3.1 z k b1 b2 b3 b4).trans (fr.1 z k b1 b2 b3 b4), fun z k b1 b2 => (g3.2 z k b1 b2).trans (fr.2 z k b1 b2)⟩)
      | ok r =>
        rw [hp] at h
        dsimp only at h
        intro I1 J1 A1 R1 kp1
        have w1 := wH_line w0 hp
        obtain ⟨x, x1, x2, x3⟩ := pLine_adv o hto hp
        have hx := tok_adv (tp := tp) (lm := lm) x2
        have fr1 : frHs a c l I0 I1 J0 J1 := ⟨fun z k b1 b2 b3 b4 => (kp1.2.2.2.1 z k b1 b2 b3 b4).trans (fr.1 z k b1 b2 b3 b4), fun z k b1 b2 => (kp1.2.2.2.2 z k b1 b2).trans (fr.2 z k b1 b2)⟩
        refine br_f (show ¬ (1 : Int32) = 0 by decide) (C_takeSign (c := 59) (by decide) (by decide) hX hP R1 (fun es I' g1 g2 g3 => br_t rfl ?_) (fun es I2 J2 R2 f2 => br_f (by decide) ?_))
        · unfold eE at h
          rw [es, if_neg (by decide)] at h
          exact h I' J1 (by rw [g1]; show _ = nI (fau _ 1); rw [fau_1]; rfl) g2 ⟨fun z k b1 b2 b3 b4 => (g3 z k (by omega)).trans (fr1.1 z k b1 b2 b3 b4), fr1.2⟩
        · have t4 : r.2.1 = 4 := by
            unfold isS at es
            rw [Bool.and_eq_true, decide_eq_true_eq] at es
            exact es.1
          unfold eE at h
          rw [es, if_pos rfl, if_pos rfl] at h
          have t2 : t.1 = 2 := by
            unfold pLine at hp
            by_cases c2 : t.1 = 2
            · exact c2
            · simp only [isW, decide_eq_false c2, Bool.false_and] at hp
              exact absurd hp (fun z => by cases z)
          rw [x3] at t4
          have hx3 := hx.2 (by show 2 ≤ (nxT tp sz lm x).1; omega)
          have hx4 : x.2.2.1 < r.2.2.2.1 := by rw [x3]; exact hx3
          have ht := tok_adv (tp := tp) (lm := lm) R1.2.2.1.2.1
          have q7 : I2 a 7 = nI cn := (f2.1 a 7 (by omega)).trans (kp1.2.2.1.trans h7)
          rw [q7, nI_1]
          have b0 := hp2 (by omega)
          have ht1 : r.2.2.2.1 ≤ (nxT tp sz lm r.2).2.2.1 := ht.1
          have ht2 : 2 ≤ (nxT tp sz lm r.2).1 → r.2.2.2.1 < (nxT tp sz lm r.2).2.2.1 := ht.2
          refine ih r.1 (nxT tp sz lm r.2) (cn + 1) _ J2 (by omega) (by omega) (fun z => by have := ht2 z; omega) (rP6_o R2 _ (by omega)) ?_ w1 (u2_s _ _ _ _) ?_ ?_ ?_ h
          · exact rH6_g p (rH6_f9 p A1 (fr9_6 f2)) rfl rfl ⟨(u2_k _ _ _ _ (by decide)).trans (rH6_f9 p A1 (fr9_6 f2)).2.2.2.1, (u2_k _ _ _ _ (by decide)).trans (rH6_f9 p A1 (fr9_6 f2)).2.2.2.2.1, (u2_k _ _ _ _ (by decide)).trans (rH6_f9 p A1 (fr9_6 f2)).2.2.2.2.2.1, (u2_k _ _ _ _ (by decide)).trans (rH6_f9 p A1 (fr9_6 f2)).2.2.2.2.2.2⟩
          · rw [u2_a _ _ _ _ (by omega), f2.1 _ _ (by omega), kp1.1]; exact h9
          · rw [u2_a _ _ _ _ (by omega), f2.1 _ _ (by omega), kp1.2.1]; exact h10
          · exact ⟨fun z k b1 b2 b3 b4 => (u2_a _ _ _ _ (by omega)).trans ((f2.1 z k (by omega)).trans (fr1.1 z k b1 b2 b3 b4)), fun z k b1 b2 => (f2.2 z k b1).trans (fr1.2 z k b1 b2)⟩
end Hs9
