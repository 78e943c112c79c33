/-! COND and ALL in one loop -/
def pMg (nx : tokT → tokT) (sd : sgT → tokT → pE (sgT × tokT)) : Nat → Bool → Bool → sgT → tokT → pE (sgT × tokT)
  | 0, _, _, _, _ => .error (0, 0)
  | f + 1, ba, bo, s, t => match sd s t with
    | .error e => .error e
    | .ok p => if isW p.2 11 then pMg nx sd f true bo (sAd ba 11 p.1) (nx p.2) else if isW p.2 10 then pMg nx sd f false true (sAd bo 10 (sAd ba 11 p.1)) (nx p.2) else .ok (sAd bo 10 (sAd ba 11 p.1), p.2)
def pMi (nx : tokT → tokT) (sd : sgT → tokT → pE (sgT × tokT)) (fa l : Nat) (ba bo : Bool) (s : sgT) (t : tokT) : pE (sgT × tokT) := match pLp nx 11 sd fa ba s t with
  | .error e => .error e
  | .ok p => if isW p.2 10 then pLp nx 10 (pAndW nx sd) l true (sAd bo 10 p.1) (nx p.2) else .ok (sAd bo 10 p.1, p.2)
theorem sAd_2 (b : Bool) (i : Nat) (s : sgT) : (sAd b i s).2 = s.2 := by
  unfold sAd
  split <;> rfl
theorem pLp_S (nx : tokT → tokT) (w : Nat) (sd : sgT → tokT → pE (sgT × tokT)) (l : Nat) (b : Bool) (s : sgT) (t : tokT) : pLp nx w sd (l + 1) b s t = match sd s t with
    | .error e => .error e
    | .ok p => if isW p.2 w then pLp nx w sd l true (sAd b w p.1) (nx p.2) else .ok (sAd b w p.1, p.2) := rfl
theorem mg_eq {nx : tokT → tokT} {sd : sgT → tokT → pE (sgT × tokT)} (ok : okSd sd) : ∀ (f fa l : Nat) (ba bo : Bool) (s : sgT) (t : tokT), s.2 ≤ 20 → 21 ≤ f + s.2 → 21 ≤ fa + s.2 → 21 ≤ l + 1 + s.2 → pMg nx sd f ba bo s t = pMi nx sd fa l ba bo s t := by
  intro f
  induction f with
  | zero => intro fa l ba bo s t h1 h2; omega
  | succ f ih =>
    intro fa l ba bo s t h1 h2 h3 h4
    obtain ⟨fb, rfl⟩ : ∃ fb, fa = fb + 1 := ⟨fa - 1, by omega⟩
    unfold pMi
    rw [pLp_S]
    simp only [pMg]
    cases e : sd s t with
    | error er => rfl
    | ok p =>
      obtain ⟨seg, g1, g2, g3, g4⟩ := ok s t p h1 e
      dsimp only
      by_cases c1 : isW p.2 11 = true
      · rw [if_pos c1, if_pos c1, ih fb l true bo _ _ (by rw [sAd_2]; exact g4) (by rw [sAd_2]; omega) (by rw [sAd_2]; omega) (by rw [sAd_2]; omega)]
        rfl
      · rw [if_neg c1, if_neg c1]
        dsimp only
        by_cases c2 : isW p.2 10 = true
        · rw [if_pos c2, if_pos c2]
          obtain ⟨l', rfl⟩ : ∃ l', l = l' + 1 := ⟨l - 1, by omega⟩
          rw [ih 21 l' false true _ _ (by rw [sAd_2, sAd_2]; exact g4) (by rw [sAd_2, sAd_2]; omega) (by omega) (by rw [sAd_2, sAd_2]; omega), pLp_S]
          rfl
        · rw [if_neg c2, if_neg c2]
theorem or_mg {nx : tokT → tokT} {sd : sgT → tokT → pE (sgT × tokT)} (ok : okSd sd) (s : sgT) (t : tokT) (h : s.2 ≤ 20) : pOrW nx sd s t = pMg nx sd 21 false false s t := by
  rw [mg_eq ok 21 21 20 false false s t h (by omega) (by omega) (by omega)]
  rfl
