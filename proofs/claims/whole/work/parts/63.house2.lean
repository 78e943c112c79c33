/-! the reference: year, angels, most -/
theorem rdN_ok {nx : tokT → tokT} {t : tokT} {a b : Nat} (e : eN t a b = 0) : rdN nx t a b = .ok (t.2.2.2.1, nx t) := if_pos e
theorem rdN_bad {nx : tokT → tokT} {t : tokT} {a b : Nat} (e : eN t a b ≠ 0) : rdN nx t a b = .error (fau t (eN t a b), t.2.1) := if_neg e
theorem rP_of {I I' : sI} {J J' : sJ} {sz lm : Nat} {tp : Nat → Nat} {t : tokT} (R : rP I J sz lm tp t) (h : ∀ k, 3 ≤ k → k ≤ 9 → I' 91 k = I 91 k) (h2 : ∀ j, I' 92 j = I 92 j) (hJ : J' 91 12 = J 91 12) : rP I' J' sz lm tp t := by
  obtain ⟨S, T, o⟩ := R
  exact ⟨⟨(h 3 (by decide) (by decide)).trans S.1, (h 4 (by decide) (by decide)).trans S.2.1, S.2.2.1, S.2.2.2.1, fun j hj => ⟨(h2 j).trans (S.2.2.2.2 j hj).1, (S.2.2.2.2 j hj).2⟩⟩, ⟨(h 7 (by decide) (by decide)).trans T.1, (h 6 (by decide) (by decide)).trans T.2.1, (h 5 (by decide) (by decide)).trans T.2.2.1, fun a => (h 9 (by decide) (by decide)).trans (T.2.2.2.1 a), fun a => (h 8 (by decide) (by decide)).trans (T.2.2.2.2.1 a), fun a => hJ.trans (T.2.2.2.2.2 a)⟩, o⟩
section ModHouse2
variable {G : gG} {d : Nat} {I : sI} {J : sJ} {P : sP} {K : sK} {n : Nat} {F : Int32 → sI → sJ → Prop} {FV : sI → sJ → Prop} {sz lm : Nat} {tp : Nat → Nat} {t : tokT} {H : hS}
def fPost (I0 : sI) (J0 : sJ) (sz lm : Nat) (tp : Nat → Nat) (fk ck : Nat) (F : Int32 → sI → sJ → Prop) (r : pE (Nat × tokT)) : Prop := match r with
  | .error e => ∀ I' J', I' 91 10 = nI e.1 → I' 91 11 = nI e.2 → frH I0 I' J0 J' → F 0 I' J'
  | .ok p => ∀ I' J', I' 94 ck = nI p.1 → (∀ k, k ≠ ck → I' 94 k = I0 94 k) → I' 91 fk = 1 → (∀ k, 23 ≤ k → k ≤ 26 → k ≠ fk → I' 91 k = I0 91 k) → (∀ k, J' 99 k = J0 99 k) → rP I' J' sz lm tp p.2 → I' 91 10 = I0 91 10 → frH I0 I' J0 J' → F 1 I' J'
theorem M_flagN {fk ck a b : Nat} (hf : 23 ≤ fk ∧ fk ≤ 26) (hc : ck < 815) (ha : a < 2147483648) (hb : b < 2147483648) (hM : shM P K) (R : rP I J sz lm tp t) (h : fPost I J sz lm tp fk ck F (rdN (nxT tp sz lm) (nxT tp sz lm t) a b)) : ckV G (d + 2) mX12_go [.ref 91] (u2 I 91 fk 1) J P K n (fun I2 J3 => ckI G (d + 2) mX12_readNumber [.ref 91, .int (nI a), .int (nI b)] I2 J3 P K n (fun v7 I5 J6 => ckI G (d + 2) mX12_put [.ref 91, .int (nI ck), .int v7] I5 J6 P K n (fun v11 I9 J10 => (v11 = 0 ∨ v11 = 1) ∧ F v11 I9 J10))) := by
  have R2 : rP (u2 I 91 fk 1) J sz lm tp t := rP_of R (fun k h1 h2 => u2_k _ _ _ _ (by omega)) (fun j => u2_a _ _ _ _ (by decide)) rfl
  refine M_next' hM R2 (fun I2 J2 R3 f => ?_)
  have fh : frH I I2 J J2 := frH_tr (I' := u2 I 91 fk 1) (J' := J) ⟨fun c k h1 h2 => by simp only [u2]; rw [if_neg (by omega)], fun _ _ _ _ => rfl⟩ (frH_go f)
  refine M_putN ha hb hc hM R3 (fun e I3 J3 R4 g1 g2 g3 g4 => ?_) (fun e I3 e1 e2 e3 => ?_)
  · rw [rdN_ok e] at h
    refine ⟨Or.inr rfl, h I3 J3 g1 (fun k hk => ?_) ?_ (fun k h1 h2 h3 => ?_) (fun k => ?_) R4 ?_ (frH_tr fh ⟨fun c k h1 h2 => g3 c k h1 (by omega), fun c k _ h2 => g4 c k h2⟩)⟩
    · rw [g2 k hk, f.1 94 k (by omega), u2_a _ _ _ _ (by decide)]
    · rw [g3 91 fk (by decide) (by omega), f.1 91 fk (by omega), u2_s]
    · rw [g3 91 k (by decide) (by omega), f.1 91 k (by omega), u2_k _ _ _ _ h3]
    · rw [g4 99 k (by omega), f.2 99 k (by omega)]
    · rw [g3 91 10 (by decide) (by omega), f.1 91 10 (by omega), u2_k _ _ _ _ (by omega)]
  · rw [rdN_bad e] at h
    exact ⟨Or.inl rfl, h I3 J2 e1 e2 (frH_tr fh (frH_bad e3))⟩
theorem M_badH {k : Nat} (hM : shM P K) (R : rP I J sz lm tp t) (h : pPost I J sz lm tp F (fl t k)) : ckI G d mX12_bad [.ref 91, .int (nI k)] I J P K n (fun v I' J' => (v = 0 ∨ v = 1) ∧ F v I' J') :=
  M_bad k hM R.2.1 R.2.2 (fun I' a1 a2 a3 => ⟨Or.inl rfl, h I' J a1 a2 (frH_bad a3)⟩)
theorem M_readYear (hM : shM P K) (R : rP I J sz lm tp t) (A : rH I J H) (h : pPost I J sz lm tp F (pYear (nxT tp sz lm) H t)) : ckI G (d + 3) mX12_readYear [.ref 91] I J P K n F := by
  obtain ⟨h1, nm, y, a, m, w⟩ := H
  obtain ⟨A1, A2, A3, A4, A5, A6⟩ := A
  refine bX12_readYear_0 hM ⟨fun q => ⟨fun q2 => ?_, fun q2 => ?_⟩, fun q => ?_⟩
  · have ey : y = false := b01_0.mp (A3.symm.trans q)
    have ew : w = false := b01_0.mp (A6.symm.trans q2)
    subst ey; subst ew
    refine M_flagN (fk := 23) (ck := 4) (a := 0) (b := 29) (by decide) (by decide) (by decide) (by decide) hM R ?_
    simp only [pYear, Bool.or_self, Bool.false_eq_true, if_false] at h
    cases hr : rdN (nxT tp sz lm) (nxT tp sz lm t) 0 29 with
    | error e => rw [hr] at h; exact h
    | ok p =>
      rw [hr] at h
      intro I' J' g1 g2 g3 g4 g5 g6 g7 g8
      refine h I' J' ⟨fun k hk => ?_, fun s hs => ?_, g3, ?_, ?_, ?_⟩ g6 g7 g8
      · show I' 94 k = nI (up h1 4 p.1 k)
        by_cases e : k = 4
        · subst e; rw [up_s]; exact g1
        · rw [up_n _ _ e, g2 k e]; exact A1 k hk
      · rw [g5 s]; exact A2 s (by show s < h1 0; rw [← up_n h1 (k := 4) p.1 (show 0 ≠ 4 by decide)]; exact hs)
      · rw [g4 24 (by decide) (by decide) (by decide)]; exact A4
      · rw [g4 25 (by decide) (by decide) (by decide)]; exact A5
      · rw [g4 26 (by decide) (by decide) (by decide)]; exact A6
  · have ew : w = true := b01_1.mp ((b01_or w).resolve_left (fun z => q2 (A6.trans z)))
    subst ew
    simp only [pYear, Bool.or_true, if_true] at h
    exact M_badH (k := 3) hM R h
  · have ey : y = true := b01_1.mp ((b01_or y).resolve_left (fun z => q (A3.trans z)))
    subst ey
    simp only [pYear, Bool.true_or, if_true] at h
    exact M_badH (k := 3) hM R h
theorem M_readAngels (hM : shM P K) (R : rP I J sz lm tp t) (A : rH I J H) (h : pPost I J sz lm tp F (pAngels (nxT tp sz lm) H t)) : ckI G (d + 3) mX12_readAngels [.ref 91] I J P K n F := by
  obtain ⟨h1, nm, y, a, m, w⟩ := H
  obtain ⟨A1, A2, A3, A4, A5, A6⟩ := A
  refine bX12_readAngels_0 hM ⟨fun q => ?_, fun q => ?_⟩
  · have ey : a = false := b01_0.mp (A4.symm.trans q)
    subst ey
    refine M_flagN (fk := 24) (ck := 2) (a := 0) (b := 9) (by decide) (by decide) (by decide) (by decide) hM R ?_
    simp only [pAngels, Bool.false_eq_true, if_false] at h
    cases hr : rdN (nxT tp sz lm) (nxT tp sz lm t) 0 9 with
    | error e => rw [hr] at h; exact h
    | ok p =>
      rw [hr] at h
      intro I' J' g1 g2 g3 g4 g5 g6 g7 g8
      refine h I' J' ⟨fun k hk => ?_, fun s hs => ?_, ?_, g3, ?_, ?_⟩ g6 g7 g8
      · show I' 94 k = nI (up h1 2 p.1 k)
        by_cases e : k = 2
        · subst e; rw [up_s]; exact g1
        · rw [up_n _ _ e, g2 k e]; exact A1 k hk
      · rw [g5 s]; exact A2 s (by show s < h1 0; rw [← up_n h1 (k := 2) p.1 (show 0 ≠ 2 by decide)]; exact hs)
      · rw [g4 23 (by decide) (by decide) (by decide)]; exact A3
      · rw [g4 25 (by decide) (by decide) (by decide)]; exact A5
      · rw [g4 26 (by decide) (by decide) (by decide)]; exact A6
  · have ey : a = true := b01_1.mp ((b01_or a).resolve_left (fun z => q (A4.trans z)))
    subst ey
    simp only [pAngels, if_true] at h
    exact M_badH (k := 3) hM R h
theorem M_readMost (hM : shM P K) (R : rP I J sz lm tp t) (A : rH I J H) (h : pPost I J sz lm tp F (pMost (nxT tp sz lm) H t)) : ckI G (d + 3) mX12_readMost [.ref 91] I J P K n F := by
  obtain ⟨h1, nm, y, a, m, w⟩ := H
  obtain ⟨A1, A2, A3, A4, A5, A6⟩ := A
  refine bX12_readMost_0 hM ⟨fun q => ?_, fun q => ?_⟩
  · have ey : m = false := b01_0.mp (A5.symm.trans q)
    subst ey
    refine M_flagN (fk := 25) (ck := 3) (a := 1) (b := 400) (by decide) (by decide) (by decide) (by decide) hM R ?_
    simp only [pMost, Bool.false_eq_true, if_false] at h
    cases hr : rdN (nxT tp sz lm) (nxT tp sz lm t) 1 400 with
    | error e => rw [hr] at h; exact h
    | ok p =>
      rw [hr] at h
      intro I' J' g1 g2 g3 g4 g5 g6 g7 g8
      refine h I' J' ⟨fun k hk => ?_, fun s hs => ?_, ?_, ?_, g3, ?_⟩ g6 g7 g8
      · show I' 94 k = nI (up h1 3 p.1 k)
        by_cases e : k = 3
        · subst e; rw [up_s]; exact g1
        · rw [up_n _ _ e, g2 k e]; exact A1 k hk
      · rw [g5 s]; exact A2 s (by show s < h1 0; rw [← up_n h1 (k := 3) p.1 (show 0 ≠ 3 by decide)]; exact hs)
      · rw [g4 23 (by decide) (by decide) (by decide)]; exact A3
      · rw [g4 24 (by decide) (by decide) (by decide)]; exact A4
      · rw [g4 26 (by decide) (by decide) (by decide)]; exact A6
  · have ey : m = true := b01_1.mp ((b01_or m).resolve_left (fun z => q (A5.trans z)))
    subst ey
    simp only [pMost, if_true] at h
    exact M_badH (k := 3) hM R h
end ModHouse2
