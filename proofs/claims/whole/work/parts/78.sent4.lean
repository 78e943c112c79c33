section ModSent4
variable {G : gG} {d : Nat} {I I0 : sI} {J J0 : sJ} {P : sP} {K : sK} {n : Nat} {F : Int32 → sI → sJ → Prop} {FV : sI → sJ → Prop} {sz lm : Nat} {tp : Nat → Nat} {t : tokT} {hd : Nat → Nat} {nm : Nat → List Nat} {s s0 : sgT} {nd nd0 : Nat → ndT}
/-- the word that begins a ONE, 22: none does -/
def wv (t : tokT) : Nat := match wI t with
  | some w => if 12 ≤ w then w else 22
  | none => 22
theorem wv_is {t : tokT} {j : Nat} (h1 : 12 ≤ j) (h2 : j < 22) : isW t j = true ↔ wv t = j := by
  rw [isW_wI h2, decide_eq_true_iff]
  unfold wv
  cases e : wI t with
  | none => simp; omega
  | some w =>
    have := (wI_lt e).1
    simp only [Option.some.injEq]
    split <;> omega
theorem wv_le {t : tokT} : 12 ≤ wv t ∧ wv t ≤ 22 := by
  unfold wv
  cases e : wI t with
  | none => simp
  | some w =>
    have := (wI_lt e).1
    simp only
    split <;> omega
theorem wv_some {t : tokT} (h : wv t ≤ 21) : wI t = some (wv t) := by
  unfold wv at h ⊢
  cases e : wI t with
  | none => rw [e] at h; simp at h
  | some w =>
    rw [e] at h
    simp only at h ⊢
    split at h
    · rw [if_pos (by assumption)]
    · omega
theorem stW_wv (t : tokT) : stW t = (isS t 40 || decide (wv t ≤ 21)) := by
  unfold stW wv
  cases e : wI t with
  | none => simp
  | some w =>
    have := (wI_lt e).1
    simp only
    congr 1
    refine decide_eq_decide.mpr ?_
    split <;> omega
theorem M_said10 {D x1 : Nat} (hM : shM P K) (R : rP I J sz lm tp t) (h : Ok G (D + 3) mX12_readSaid 30 [some (.ref 91), some (.int (nI x1)), some (.int (nI (wv t))), none] [] I J P K n (kI P K n F)) : ∀ r j, j + r = 22 → 12 ≤ j → j ≤ wv t → Ok G (D + 3) mX12_readSaid 10 [some (.ref 91), some (.int (nI x1)), some (.int (nI j)), none] [] I J P K n (kI P K n F) := by
  intro r
  induction r with
  | zero =>
    intro j hj h1 h2
    have := wv_le (t := t)
    have e : wv t = j := by omega
    rw [e] at h
    exact bX12_readSaid_10 hM _ _ (br_t (nI_lt (a := 21) (by omega) (by omega)) h)
  | succ r ih =>
    intro j hj h1 h2
    refine bX12_readSaid_10 hM _ _ (br_f (nI_nlt (a := 21) (by omega) (by decide)) ?_)
    refine M_isWord (k := j) (by omega) hM R.2.1 R.2.2 (b01n (fun e => ?_) (fun e => ?_))
    · rw [nI_1]
      have : wv t ≠ j := fun z => by have := (wv_is h1 (by omega)).mpr z; rw [e] at this; cases this
      exact ih (j + 1) (by omega) (by omega) (by omega)
    · have e2 := (wv_is h1 (by omega)).mp e
      rw [e2] at h; exact h
/-- within, and back -/
theorem sPost_52 {I2 : sI} {J2 : sJ} {wi : Nat} {r : pE (sgT × tokT)} (hw : I 91 52 = nI wi) (hw2 : I2 91 52 = nI (wi + 1)) (h10 : I2 91 10 = I 91 10) (f : frZ I I2 J J2) (h : sPost I J sz lm tp s nd F r) : sPost I2 J2 sz lm tp (s.1, s.2 + 1) nd (fun v I' J' => (v = 0 ∨ v = 1) ∧ F v (u2 I' 91 52 (I' 91 52 - 1)) J') r := by
  have o5 : ∀ (I' : sI) (v : Int32) c k, ¬ (c = 91 ∧ k = 52) → u2 I' 91 52 v c k = I' c k := fun I' v c k hk => by simp only [u2]; rw [if_neg hk]
  cases r with
  | error e =>
    intro I' J' a1 a2 a3
    refine ⟨Or.inl rfl, h _ J' ((o5 _ _ 91 10 (by omega)).trans a1) ((o5 _ _ 91 11 (by omega)).trans a2) (frZ_tr (frZ_tr f a3) ⟨fun c k h1 h2 => o5 _ _ c k (by omega), fun _ _ _ => rfl⟩)⟩
  | ok p =>
    intro I' J' nd' top seg R' g' es en h53 ht ho h52 k10 f'
    refine ⟨Or.inr rfl, h _ J' nd' top seg (rP_of R' (fun k _ _ => o5 _ _ 91 k (by omega)) (fun j => o5 _ _ 92 j (by omega)) rfl) (rG_of g' (o5 _ _ 91 50 (by omega)) (o5 _ _ 91 51 (by omega)) (fun k => o5 _ _ 115 k (by omega))) es en ((o5 _ _ 91 53 (by omega)).trans h53) ht ho ?_ ?_ (frZ_tr (frZ_tr f f') ⟨fun c k h1 h2 => o5 _ _ c k (by omega), fun _ _ _ => rfl⟩)⟩
    · rw [u2_s, h52, hw2, hw, nI_pred]
    · rw [o5 _ _ 91 10 (by omega), k10, h10]
theorem M_readSaid (hM : shM P K) (h5 : hd 0 ≤ 5) : ∀ (dep wi d : Nat), dep + wi = 8 → 4 * dep ≤ d → SD G (d + 6) mX12_readSaid P K n sz lm tp hd nm wi (pSd (nxT tp sz lm) hd nm dep) := by
  intro dep
  induction dep with
  | zero =>
    intro wi d hdw hd4 I J s nd t F R g hlen hw e0 N h
    have b40 : b01 (isS t 40) = nI (b2 (isS t 40)) := by cases isS t 40 <;> rfl
    have wl' := wv_le (t := t)
    refine bX12_readSaid_0 hM (M_isSign (c := 40) (by decide) hM R.2.1 R.2.2 ?_)
    rw [b40]
    refine M_said10 hM R ?_ 10 12 rfl (by decide) wl'.1
    simp only [pSd, stW_wv] at h
    have m46 : (isS t 40 || decide (wv t ≤ 21)) = true → Ok G (d + 6) mX12_readSaid 46 [some (.ref 91), some (.int (nI (b2 (isS t 40)))), some (.int (nI (wv t))), none] [] I J P K n (kI P K n F) := by
      intro e
      rw [if_pos e] at h
      have hb : ckI G (d + 5) mX12_bad [.ref 91, .int (nI 4)] I J P K n (fun v I' J' => (v = 0 ∨ v = 1) ∧ F v I' J') := M_bad 4 hM R.2.1 R.2.2 (fun I' a1 a2 a3 => ⟨Or.inl rfl, h I' J a1 a2 (frZ_Q (frQ_bad a3))⟩)
      refine bX12_readSaid_46 hM _ _ ⟨fun _ => hb, fun _ => br_t ?_ hb⟩
      rw [hw]; rw [show wi = 8 by omega]; rfl
    refine bX12_readSaid_30 hM _ _ ?_
    cases eb : isS t 40 with
    | true =>
      rw [eb] at m46
      exact br_f (by decide) (m46 rfl)
    | false =>
      rw [eb] at m46 h
      refine br_t rfl ⟨fun q => m46 ?_, fun q => ?_⟩
      · have q' := (nI_leI (a := wv t) (b := 21) (by omega) (by decide)).mp q
        rw [decide_eq_true q']; rfl
      · have q' : ¬ wv t ≤ 21 := fun z => q ((nI_leI (a := wv t) (b := 21) (by omega) (by decide)).mpr z)
        rw [decide_eq_false q'] at h
        exact M_bad 1 hM R.2.1 R.2.2 (fun I' a1 a2 a3 => ⟨Or.inl rfl, h I' J a1 a2 (frZ_Q (frQ_bad a3))⟩)
  | succ dep ih =>
    intro wi d hdw hd4 I J s nd t F R g hlen hw e0 N h
    obtain ⟨d, rfl⟩ : ∃ e, d = e + 4 := ⟨d - 4, by omega⟩
    have b40 : b01 (isS t 40) = nI (b2 (isS t 40)) := by cases isS t 40 <;> rfl
    have wl' := wv_le (t := t)
    have ho := g.2.2.1
    refine bX12_readSaid_0 hM (M_isSign (c := 40) (by decide) hM R.2.1 R.2.2 ?_)
    rw [b40]
    refine M_said10 hM R ?_ 10 12 rfl (by decide) wl'.1
    simp only [pSd] at h
    rw [stW_wv] at h
    have m46 : (isS t 40 || decide (wv t ≤ 21)) = true → Ok G (d + 4 + 6) mX12_readSaid 46 [some (.ref 91), some (.int (nI (b2 (isS t 40)))), some (.int (nI (wv t))), none] [] I J P K n (kI P K n F) := by
      intro e
      rw [if_pos e] at h
      refine bX12_readSaid_46 hM _ _ ?_
      rw [g.2.1, hw]
      refine ⟨fun q => ?_, fun q => br_f (fun z => ?_) ?_⟩
      · have e20 : s.2 = 20 := (nI_eq (by omega) (by decide)).mp q
        rw [if_pos e20] at h
        exact M_bad 4 hM R.2.1 R.2.2 (fun I' a1 a2 a3 => ⟨Or.inl rfl, h I' J a1 a2 (frZ_Q (frQ_bad a3))⟩)
      · have := (nI_eq (a := wi) (b := 8) (by omega) (by decide)).mp z
        omega
      · have e20 : ¬ s.2 = 20 := fun z => q (by rw [z]; rfl)
        rw [if_neg e20, nI_1, nI_1] at *
        generalize hB : u2 (u2 I 91 51 (nI (s.2 + 1))) 91 52 (nI (wi + 1)) = B
        have bo : ∀ c k, ¬ (c = 91 ∧ (k = 51 ∨ k = 52)) → B c k = I c k := fun c k hk => by rw [← hB]; simp only [u2]; rw [if_neg (by omega), if_neg (by omega)]
        have RB : rP B J sz lm tp t := rP_of R (fun k _ _ => bo 91 k (by omega)) (fun j => bo 92 j (by omega)) rfl
        refine M_next' hM RB (fun I2 J2 R2 f2 => ?_)
        have g2 : rG I2 (s.1, s.2 + 1) nd := by
          refine ⟨?_, ?_, by show s.2 + 1 ≤ 20; omega, g.2.2.2.1, fun i hi => ?_⟩
          · rw [f2.1 91 50 (by omega), bo 91 50 (by omega)]; exact g.1
          · rw [f2.1 91 51 (by omega), ← hB, u2_k _ _ _ _ (by decide), u2_s]
          · have o : ∀ k, I2 115 k = I 115 k := fun k => by rw [f2.1 115 k (by omega), bo 115 k (by omega)]
            simp only [o]; exact g.2.2.2.2 i hi
        have hw2 : I2 91 52 = nI (wi + 1) := by rw [f2.1 91 52 (by omega), ← hB, u2_s]
        have h10 : I2 91 10 = I 91 10 := by rw [f2.1 91 10 (by omega), bo 91 10 (by omega)]
        have fz : frZ I I2 J J2 := frZ_tr (I' := B) (J' := J) ⟨fun c k h1 h2 => bo c k (by omega), fun _ _ _ => rfl⟩ (frZ_go f2)
        have e02 : I2 93 0 = nI (hd 0) := (fz.1 93 0 (by decide) (by omega)).trans e0
        have N2 : rNm J2 hd nm := rNm_of N (fun k => fz.2 98 k (by omega))
        have hl2 : (s.1, s.2 + 1).1.length ≤ 2 * (s.1, s.2 + 1).2 := by show s.1.length ≤ 2 * (s.2 + 1); omega
        have hl60 : (s.1, s.2 + 1).1.length < 60 := by show s.1.length < 60; omega
        have okd := okSd_d (nxT tp sz lm) hd nm dep
        cases eb : isS t 40 with
        | true =>
          rw [if_pos eb] at h
          refine br_f (by decide) ?_
          have S1 := ih (wi + 1) d (by omega) (by omega)
          have S2 := M_readAnd (D := d + 4) hM okd S1
          have S3 := M_readOr (D := d + 5) hM (okLp0 okd 21) S2
          exact M_readBracket (D := d + 6) hM S3 I2 J2 (s.1, s.2 + 1) nd _ _ R2 g2 hl2 hw2 e02 N2 (sPost_52 hw hw2 h10 fz h)
        | false =>
          rw [if_neg (by rw [eb]; decide)] at h
          rw [eb] at e
          have hwv : wv t ≤ 21 := of_decide_eq_true (by simpa using e)
          simp only [wv_some hwv] at h
          refine br_t rfl ?_
          by_cases c12 : wv t = 12
          · rw [if_pos c12] at h
            refine br_t (by rw [c12]; rfl) ?_
            have S1' := ih (wi + 1) (d + 2) (by omega) (by omega)
            exact M_readNot (D := d + 6) hM okd S1' I2 J2 (s.1, s.2 + 1) nd _ _ R2 g2 hl2 hw2 e02 N2 (sPost_52 hw hw2 h10 fz h)
          · rw [if_neg c12] at h
            refine br_f (fun z => c12 ((nI_eq (b := 12) (by omega) (by decide)).mp z)) ?_
            have h' : sPost I J sz lm tp s nd F (match pPl (nxT tp sz lm) hd nm (wv t) (nxT tp sz lm t) with
                | .error e => .error e
                | .ok p => .ok (((s.1, s.2 + 1).1 ++ [p.1], (s.1, s.2 + 1).2), p.2)) := h
            by_cases c16 : 16 ≤ wv t
            · refine br_t (nI_le (a := 16) c16 (by omega)) ?_
              by_cases c18 : 18 ≤ wv t
              · refine br_t (nI_le (a := 18) c18 (by omega)) ?_
                exact M_readCompare (d := d + 6) (hd := hd) (nm := nm) ⟨c18, hwv⟩ hM R2 g2 hl60 (sPost_52 hw hw2 h10 fz h')
              · refine br_f (nI_ge (b := 18) (by omega) (by decide)) ?_
                exact M_readOf (d := d + 4) (by omega) hM h5 R2 g2 hl60 e02 N2 (sPost_52 hw hw2 h10 fz h')
            · refine br_f (nI_ge (b := 16) (by omega) (by decide)) ?_
              rw [nI_50]
              have e16 : pPl (nxT tp sz lm) hd nm (wv t) (nxT tp sz lm t) = .ok ((wv t, 0, 0), nxT tp sz lm t) := by unfold pPl; rw [if_pos (by omega)]
              rw [e16] at h'
              have hh := sPost_52 hw hw2 h10 fz h'
              refine ckI_mono ?_ (M_plainN (q := (50 + wv t, 0, 0, 0)) (i := (wv t, 0, 0)) hM R2 g2 hl60 ⟨by show 63 ≤ 50 + wv t; omega, by show 50 + wv t ≤ 71; omega, fun z => absurd z (by show ¬ 50 + wv t = 67; omega)⟩ ⟨Nat.zero_le _, Nat.zero_le _, Nat.zero_le _⟩ (by unfold itm; rw [if_neg (by show ¬ (50 + wv t = 66 ∨ 50 + wv t = 67); omega)]; show (50 + wv t - 50, _, _) = _; rw [show 50 + wv t - 50 = wv t by omega]) (by show 13 ≤ wv t; omega) rfl (fun _ _ => rfl) (frZ_rf _ _) rfl rfl hh)
              intro v I' J' q
              have := q.2
              rw [u2_k _ _ _ _ (by decide)] at this
              exact this
    refine bX12_readSaid_30 hM _ _ ?_
    cases eb : isS t 40 with
    | true =>
      rw [eb] at m46
      exact br_f (by decide) (m46 rfl)
    | false =>
      rw [eb] at m46 h
      refine br_t rfl ⟨fun q => m46 ?_, fun q => ?_⟩
      · have q' := (nI_leI (a := wv t) (b := 21) (by omega) (by decide)).mp q
        rw [decide_eq_true q']; rfl
      · have q' : ¬ wv t ≤ 21 := fun z => q ((nI_leI (a := wv t) (b := 21) (by omega) (by decide)).mpr z)
        rw [decide_eq_false q'] at h
        exact M_bad 1 hM R.2.1 R.2.2 (fun I' a1 a2 a3 => ⟨Or.inl rfl, h I' J a1 a2 (frZ_Q (frQ_bad a3))⟩)
end ModSent4
