/-! the reference: tokens -/
def isL (c : Nat) : Bool := decide (97 ≤ c) && decide (c ≤ 122)
def isD (c : Nat) : Bool := decide (48 ≤ c) && decide (c ≤ 57)
def sgn (c : Nat) : Bool := decide (c = 59) || decide (c = 60) || decide (c = 61) || decide (c = 62) || decide (c = 40) || decide (c = 41)
def tpA (tp : Nat → Nat) (sz p : Nat) : Nat := if p < sz then tp p else 0
def skp (tp : Nat → Nat) (sz : Nat) : Nat → Nat → Nat
  | 0, p => p
  | f + 1, p => if p < sz ∧ (tp p = 32 ∨ tp p = 10) then skp tp sz f (p + 1) else p
def rln (tp : Nat → Nat) (sz : Nat) : Nat → Nat → Nat
  | 0, p => p
  | f + 1, p => if (p < sz ∧ (isL (tp p) || isD (tp p)) = true) then rln tp sz f (p + 1) else p
def lets (tp : Nat → Nat) (q : Nat) : Nat → List Nat
  | 0 => []
  | m + 1 => lets tp q m ++ [tp (q + m) - 96]
def dval (tp : Nat → Nat) (q : Nat) : Nat → Nat
  | 0 => 0
  | m + 1 => 10 * dval tp q m + (tp (q + m) - 48)
def sameB (tp : Nat → Nat) (q i : Nat) : Bool := isL (tp (q + i)) == isL (tp q)
abbrev tokT := Nat × Nat × Nat × Nat × List Nat
def tokR (tp : Nat → Nat) (q e : Nat) : tokT := if allB (sameB tp q) (e - q) = false ∨ (if isL (tp q) then 7 else 3) < e - q then (1, q, e, 0, []) else if isL (tp q) then (2, q, e, 0, lets tp q (e - q)) else (3, q, e, dval tp q (e - q), [])
def tokQ (tp : Nat → Nat) (sz lm q : Nat) : tokT := if lm < sz ∧ lm ≤ q then (1, lm, q, 0, []) else if sz ≤ q then (0, q, q, 0, []) else if isL (tp q) = false ∧ isD (tp q) = false then (if sgn (tp q) then 4 else 1, q, q + 1, tp q, []) else tokR tp q (rln tp sz (sz - q) q)
def tok (tp : Nat → Nat) (sz lm p : Nat) : tokT := tokQ tp sz lm (skp tp sz (sz - p) p)
def rTok (I : sI) (J : sJ) (t : tokT) : Prop := I 91 7 = nI t.1 ∧ I 91 6 = nI t.2.1 ∧ I 91 5 = nI t.2.2.1 ∧ (t.1 = 4 → I 91 9 = nI t.2.2.2.1) ∧ (t.1 = 3 → I 91 8 = nI t.2.2.2.1) ∧ (t.1 = 2 → J 91 12 = lN (vB 27 t.2.2.2.2 0))
def rS (I : sI) (sz lm : Nat) (tp : Nat → Nat) : Prop := I 91 3 = nI sz ∧ I 91 4 = nI lm ∧ sz ≤ 940 ∧ lm ≤ 1000 ∧ ∀ j, j < sz → I 92 j = nI (tp j) ∧ tp j ≤ 255
def frGo (I I' : sI) (J J' : sJ) : Prop := (∀ c k, ¬ (c = 91 ∧ 5 ≤ k ∧ k ≤ 9) → I' c k = I c k) ∧ ∀ c k, ¬ (c = 91 ∧ k = 12) → J' c k = J c k
theorem frGo_rf (I : sI) (J : sJ) : frGo I I J J := ⟨fun _ _ _ => rfl, fun _ _ _ => rfl⟩
theorem frGo_tr {I I' I2 : sI} {J J' J2 : sJ} (h : frGo I I' J J') (h2 : frGo I' I2 J' J2) : frGo I I2 J J2 := ⟨fun c k a => (h2.1 c k a).trans (h.1 c k a), fun c k a => (h2.2 c k a).trans (h.2 c k a)⟩
theorem frGo_u (I : sI) (J : sJ) {k : Nat} (v : Int32) (h : 5 ≤ k ∧ k ≤ 9) : frGo I (u2 I 91 k v) J J := ⟨fun c j a => by simp only [u2]; rw [if_neg (by omega)], fun _ _ _ => rfl⟩
theorem rS_fr {I I' : sI} {J J' : sJ} {sz lm : Nat} {tp : Nat → Nat} (S : rS I sz lm tp) (f : frGo I I' J J') : rS I' sz lm tp := ⟨(f.1 91 3 (by omega)).trans S.1, (f.1 91 4 (by omega)).trans S.2.1, S.2.2.1, S.2.2.2.1, fun j hj => ⟨(f.1 92 j (by omega)).trans (S.2.2.2.2 j hj).1, (S.2.2.2.2 j hj).2⟩⟩
theorem lets_len (tp : Nat → Nat) (q m : Nat) : (lets tp q m).length = m := by
  induction m with
  | zero => rfl
  | succ m ih => simp [lets, ih]
section ModTok
variable {G : gG} {d : Nat} {I : sI} {J : sJ} {P : sP} {K : sK} {n : Nat} {F : Int32 → sI → sJ → Prop} {FV : sI → sJ → Prop} {sz lm : Nat} {tp : Nat → Nat}
theorem M_isLetter {c : Nat} (hc : c < 2147483648) (h : F (b01 (isL c)) I J) : ckI G d mX12_isLetter [.int (nI c)] I J P K n F := by
  refine bX12_isLetter_0 _ ?_
  unfold isL at h
  by_cases q : 97 ≤ c
  · refine br_f (nI_nlt (b := 97) q (by omega)) ?_
    by_cases q2 : c ≤ 122
    · rw [decide_eq_true q, decide_eq_true q2] at h
      exact br_f (nI_nlt (a := 122) q2 (by decide)) h
    · rw [decide_eq_true q, decide_eq_false q2] at h
      exact br_t (nI_lt (a := 122) (by omega) (by omega)) h
  · rw [decide_eq_false q, Bool.false_and] at h
    exact br_t (nI_lt (b := 97) (by omega) (by decide)) h
theorem M_isDigit {c : Nat} (hc : c < 2147483648) (h : F (b01 (isD c)) I J) : ckI G d mX12_isDigit [.int (nI c)] I J P K n F := by
  refine bX12_isDigit_0 _ ?_
  unfold isD at h
  by_cases q : 48 ≤ c
  · refine br_f (nI_nlt (b := 48) q (by omega)) ?_
    by_cases q2 : c ≤ 57
    · rw [decide_eq_true q, decide_eq_true q2] at h
      exact br_f (nI_nlt (a := 57) q2 (by decide)) h
    · rw [decide_eq_true q, decide_eq_false q2] at h
      exact br_t (nI_lt (a := 57) (by omega) (by omega)) h
  · rw [decide_eq_false q, Bool.false_and] at h
    exact br_t (nI_lt (b := 48) (by omega) (by decide)) h
theorem M_tapeAt {p : Nat} (hM : shM P K) (S : rS I sz lm tp) (hp : p < 2147483648) (h : F (nI (tpA tp sz p)) I J) : ckI G d mX12_tapeAt [.ref 91, .int (nI p)] I J P K n F := by
  obtain ⟨S1, S2, S3, S4, S5⟩ := S
  refine bX12_tapeAt_0 hM _ ?_
  rw [S1]
  unfold tpA at h
  by_cases q : p < sz
  · rw [if_pos q] at h
    refine br_f (nI_ge q (by omega)) ?_
    rw [nI_ck (by omega), (S5 p q).1]
    exact ⟨nI_inN (by omega) (by decide), h⟩
  · rw [if_neg q] at h
    exact br_t (nI_le (by omega) (by omega)) h
end ModTok
