/-! the reference: numbers, ends, the beginning, finding a name -/
def eN (t : tokT) (a b : Nat) : Nat := if t.1 = 3 then (if a ≤ t.2.2.2.1 ∧ t.2.2.2.1 ≤ b then 0 else 2) else 1
def eE (t : tokT) : Nat := if isS t 59 then 0 else 1
/-- what reading a token and telling it may change -/
def frR (I I' : sI) (J J' : sJ) : Prop := (∀ c k, ¬ (c = 91 ∧ ((5 ≤ k ∧ k ≤ 9) ∨ k = 13)) → I' c k = I c k) ∧ ∀ c k, ¬ (c = 91 ∧ k = 12) → J' c k = J c k
theorem frR_go {I I' : sI} {J J' : sJ} (f : frGo I I' J J') : frR I I' J J' := ⟨fun c k a => f.1 c k (by omega), f.2⟩
theorem frR_tr {I I' I2 : sI} {J J' J2 : sJ} (h : frR I I' J J') (h2 : frR I' I2 J' J2) : frR I I2 J J2 := ⟨fun c k a => (h2.1 c k a).trans (h.1 c k a), fun c k a => (h2.2 c k a).trans (h.2 c k a)⟩
theorem frR_rf (I : sI) (J : sJ) : frR I I J J := ⟨fun _ _ _ => rfl, fun _ _ _ => rfl⟩
def fndN (nm : Nat → List Nat) (w : List Nat) : Nat → Nat → Option Nat
  | 0, _ => none
  | f + 1, k => if nm k = w then some k else fndN nm w f (k + 1)
section ModParse4
variable {G : gG} {d : Nat} {I : sI} {J : sJ} {P : sP} {K : sK} {n : Nat} {F : Int32 → sI → sJ → Prop} {FV : sI → sJ → Prop} {sz lm : Nat} {tp : Nat → Nat} {t : tokT}
theorem rP_13 (R : rP I J sz lm tp t) (v : Int32) : rP (u2 I 91 13 v) J sz lm tp t := by
  obtain ⟨S, T, o⟩ := R
  refine ⟨⟨(u2_k _ _ _ _ (by decide)).trans S.1, (u2_k _ _ _ _ (by decide)).trans S.2.1, S.2.2.1, S.2.2.2.1, fun j hj => ⟨(u2_a _ _ _ _ (by decide)).trans (S.2.2.2.2 j hj).1, (S.2.2.2.2 j hj).2⟩⟩, ⟨(u2_k _ _ _ _ (by decide)).trans T.1, (u2_k _ _ _ _ (by decide)).trans T.2.1, (u2_k _ _ _ _ (by decide)).trans T.2.2.1, fun a => (u2_k _ _ _ _ (by decide)).trans (T.2.2.2.1 a), fun a => (u2_k _ _ _ _ (by decide)).trans (T.2.2.2.2.1 a), T.2.2.2.2.2⟩, o⟩
theorem M_readNumber {a b : Nat} (ha : a < 2147483648) (hb : b < 2147483648) (hM : shM P K) (R : rP I J sz lm tp t) (hok : eN t a b = 0 → ∀ I' J', rP I' J' sz lm tp (nxT tp sz lm t) → I' 91 13 = nI t.2.2.2.1 → frR I I' J J' → F 1 I' J') (hbad : eN t a b ≠ 0 → ∀ I', I' 91 10 = nI (fau t (eN t a b)) → I' 91 11 = nI t.2.1 → frBad I I' → F 0 I' J) : ckI G (d + 2) mX12_readNumber [.ref 91, .int (nI a), .int (nI b)] I J P K n F := by
  have T := R.2.1
  have o := R.2.2
  have o1 := o.1
  have o5 := o.2.2.2.2
  refine bX12_readNumber_0 hM _ _ ?_
  rw [T.1]
  unfold eN at hok hbad
  by_cases q : t.1 = 3
  · rw [if_pos q] at hok hbad
    refine br_t (by rw [q]; rfl) (M_isIn _ _ _ ?_)
    rw [T.2.2.2.2.1 q]
    refine b01n (fun e => ?_) (fun e => ?_)
    · have e2 : ¬ (a ≤ t.2.2.2.1 ∧ t.2.2.2.1 ≤ b) := fun g => by rw [isB_nI g.1 g.2 hb] at e; cases e
      rw [if_neg e2] at hbad
      exact M_bad 2 hM T o (fun I' a1 a2 a3 => ⟨Or.inl rfl, hbad (by decide) I' a1 a2 a3⟩)
    · obtain ⟨z, hz1, hz2, ez⟩ := isB_t ha hb e
      have ez2 : t.2.2.2.1 = z := (nI_eq (by omega) (by omega)).mp ez
      rw [if_pos (by omega)] at hok
      refine M_next' hM (rP_13 R _) (fun I' J' R' f => hok rfl I' J' R' ?_ ⟨fun c k g => ?_, f.2⟩)
      · rw [f.1 91 13 (by omega), u2_s]
      · rw [f.1 c k (by omega)]
        simp only [u2]
        rw [if_neg (by omega)]
  · rw [if_neg q] at hbad
    exact br_f (fun e => q ((nI_eq (b := 3) (by omega) (by decide)).mp e)) (M_bad 1 hM T o (fun I' a1 a2 a3 => ⟨Or.inl rfl, hbad (by decide) I' a1 a2 a3⟩))
theorem M_readEnd (hM : shM P K) (R : rP I J sz lm tp t) (hok : eE t = 0 → ∀ I' J', rP I' J' sz lm tp (nxT tp sz lm t) → frGo I I' J J' → F 1 I' J') (hbad : eE t ≠ 0 → ∀ I', I' 91 10 = nI (fau t 1) → I' 91 11 = nI t.2.1 → frBad I I' → F 0 I' J) : ckI G (d + 2) mX12_readEnd [.ref 91] I J P K n F := by
  refine bX12_readEnd_0 hM (M_isSign (c := 59) (by decide) hM R.2.1 R.2.2 (b01n (fun e => ?_) (fun e => ?_)))
  · exact M_bad 1 hM R.2.1 R.2.2 (fun I' a1 a2 a3 => ⟨Or.inl rfl, hbad (by unfold eE; rw [e]; decide) I' a1 a2 a3⟩)
  · exact M_next' hM R (fun I' J' R' f => hok (by unfold eE; rw [e]; rfl) I' J' R' f)
/-- what beginning to read changes -/
def frBg (I I' : sI) (J J' : sJ) : Prop := (∀ c k, ¬ (c = 91 ∧ (k = 0 ∨ (2 ≤ k ∧ k ≤ 10))) → I' c k = I c k) ∧ ∀ c k, ¬ (c = 91 ∧ k = 12) → J' c k = J c k
theorem M_begin {tl : Nat} (hl : lm ≤ 1000) (hM : shM P K) (T : rT I tl tp) (h : ∀ I' J', rP I' J' tl lm tp (tok tp tl lm 0) → I' 91 0 = 0 → I' 91 2 = nI 0 → I' 91 10 = nI 0 → frBg I I' J J' → FV I' J') : ckV G (d + 2) mX12_begin [.ref 91, .int (nI lm)] I J P K n FV := by
  obtain ⟨T1, T2, T3⟩ := T
  refine bX12_begin_0 hM _ (bX12_take_0 hM ?_)
  rw [show u2 I 91 0 0 91 2 = nI tl by rw [u2_k _ _ _ _ (by decide), T1]]
  have S : rS (u2 (u2 (u2 (u2 (u2 (u2 I 91 0 0) 91 2 0) 91 3 (nI tl)) 91 4 (nI lm)) 91 10 0) 91 5 0) tl lm tp := by
    refine ⟨?_, ?_, T2, hl, fun j hj => ⟨?_, (T3 j hj).2⟩⟩
    · rw [u2_k _ _ _ _ (by decide), u2_k _ _ _ _ (by decide), u2_k _ _ _ _ (by decide), u2_s]
    · rw [u2_k _ _ _ _ (by decide), u2_k _ _ _ _ (by decide), u2_s]
    · rw [u2_a _ _ _ _ (by decide), u2_a _ _ _ _ (by decide), u2_a _ _ _ _ (by decide), u2_a _ _ _ _ (by decide), u2_a _ _ _ _ (by decide), u2_a _ _ _ _ (by decide)]
      exact (T3 j hj).1
  refine M_go (p := 0) hM S (u2_s _ _ _ _) (Nat.zero_le _) (fun I' J' t' f => h I' J' ⟨rS_fr S f, t', tok_ok T2 hl (Nat.zero_le _) (fun j hj => (T3 j hj).2)⟩ ?_ ?_ ?_ ⟨fun c k a => ?_, f.2⟩)
  · rw [f.1 91 0 (by omega), u2_k _ _ _ _ (by decide), u2_k _ _ _ _ (by decide), u2_k _ _ _ _ (by decide), u2_k _ _ _ _ (by decide), u2_k _ _ _ _ (by decide), u2_s]
  · rw [f.1 91 2 (by omega), u2_k _ _ _ _ (by decide), u2_k _ _ _ _ (by decide), u2_k _ _ _ _ (by decide), u2_k _ _ _ _ (by decide), u2_s]; rfl
  · rw [f.1 91 10 (by omega), u2_k _ _ _ _ (by decide), u2_s]; rfl
  · rw [f.1 c k (by omega)]
    simp only [u2]
    rw [if_neg (by omega), if_neg (by omega), if_neg (by omega), if_neg (by omega), if_neg (by omega), if_neg (by omega)]
theorem M_findIn {a m len : Nat} {nm : Nat → List Nat} {w : List Nat} (ka : K a = (14, len)) (hm : m ≤ len) (hl : len ≤ 1000) (ok : okW w) (hJ : ∀ s, s < m → J a s = lN (vB 27 (nm s) 0) ∧ okW (nm s)) (h : F (oN (fndN nm w m 0)) I J) : ckI G d mX12_findIn [.ref a, .int (nI m), .long (lN (vB 27 w 0))] I J P K n F := by
  have key : ∀ f k, k + f = m → F (oN (fndN nm w f k)) I J → Ok G d mX12_findIn 3 [some (.ref a), some (.int (nI m)), some (.long (lN (vB 27 w 0))), none, some (.int (nI k))] [] I J P K n (kI P K n F) := by
    intro f
    induction f with
    | zero =>
      intro k hk h
      exact bX12_findIn_3 _ _ _ _ (br_t (nI_le (by omega) (by omega)) h)
    | succ f ih =>
      intro k hk h
      refine bX12_findIn_3 _ _ _ _ (br_f (nI_ge (by omega) (by omega)) ⟨by rw [ka], by rw [ka]; exact nI_inN (by omega) (by omega), ?_⟩)
      have hj := hJ k (by omega)
      rw [nI_ck (by omega), hj.1, nI_1]
      simp only [fndN] at h
      by_cases q : nm k = w
      · rw [if_pos q] at h
        exact br_t ((lg_cmp_eq _ _).mpr (by rw [q])) h
      · rw [if_neg q] at h
        exact br_f (fun e => q ((okW_eq hj.2 ok).mp ((lg_cmp_eq _ _).mp e))) (ih (k + 1) (by omega) h)
  exact bX12_findIn_0 _ _ _ (key m 0 (by omega) h)
end ModParse4
