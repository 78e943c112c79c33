/-! the reference: the words -/
def stp (v : Int64) (x : Int32) : Int64 := if x ≤ 0 then v else 27 * v + x.toInt64 - 96
def sp6 (a b c e f g : Int32) : Int64 := stp (stp (stp (stp (27 * (a.toInt64 - 96) + b.toInt64 - 96) c) e) f) g
def wl (k : Nat) : List Nat := match k with
  | 0 => [19, 3, 1, 12, 5]
  | 1 => [23, 9, 14, 5]
  | 2 => [25, 5, 1, 18]
  | 3 => [1, 14, 7, 5, 12, 19]
  | 4 => [13, 15, 19, 20]
  | 5 => [4, 18, 1, 23]
  | 6 => [18, 21, 14]
  | 7 => [20, 15, 16]
  | 8 => [20, 9, 16]
  | 9 => [25, 5, 1, 18, 19]
  | 10 => [15, 18]
  | 11 => [1, 14, 4]
  | 12 => [14, 15, 20]
  | 13 => [6, 21, 12, 12]
  | 14 => [5, 13, 16, 20, 25]
  | 15 => [13, 9, 24, 5, 4]
  | 16 => [9, 14]
  | 17 => [8, 1, 19]
  | 18 => [12, 9, 20, 18, 5, 19]
  | 19 => [1, 7, 5]
  | 20 => [4, 18, 1, 23, 14]
  | _ => [14, 21, 13, 2, 5, 18]
section ModWord
variable {G : gG} {d : Nat} {I : sI} {J : sJ} {P : sP} {K : sK} {n : Nat} {F : Int32 → sI → sJ → Prop} {FL : Int64 → sI → sJ → Prop} {FV : sI → sJ → Prop} {sz lm : Nat} {tp : Nat → Nat}
theorem M_spelt {a b c e f g : Int32} {w : List Nat} (hw : sp6 a b c e f g = lN (vB 27 w 0)) (h : FL (lN (vB 27 w 0)) I J) : ckL G d mX12_spelt [.int a, .int b, .int c, .int e, .int f, .int g] I J P K n FL := by
  rw [← hw] at h
  unfold sp6 at h
  have s78 : ∀ v : Int64, FL (stp v g) I J → Ok G d mX12_spelt 78 [none, none, none, none, none, some (.int g), some (.long v), none] [] I J P K n (kL P K n FL) := fun v hv => by
    unfold stp at hv
    refine bX12_spelt_78 _ _ ?_
    by_cases q : g ≤ 0
    · rw [if_pos q] at hv; exact br_t q hv
    · rw [if_neg q] at hv; exact br_f q hv
  have s57 : ∀ v : Int64, FL (stp (stp v f) g) I J → Ok G d mX12_spelt 57 [none, none, none, none, some (.int f), some (.int g), some (.long v), none] [] I J P K n (kL P K n FL) := fun v hv => by
    refine bX12_spelt_57 _ _ _ ?_
    by_cases q : f ≤ 0
    · rw [show stp v f = v by unfold stp; rw [if_pos q]] at hv; exact br_t q (s78 _ hv)
    · rw [show stp v f = 27 * v + f.toInt64 - 96 by unfold stp; rw [if_neg q]] at hv; exact br_f q (s78 _ hv)
  have s38 : ∀ v : Int64, FL (stp (stp (stp v e) f) g) I J → Ok G d mX12_spelt 38 [none, none, none, some (.int e), some (.int f), some (.int g), some (.long v), none] [] I J P K n (kL P K n FL) := fun v hv => by
    refine bX12_spelt_38 _ _ _ _ ?_
    by_cases q : e ≤ 0
    · rw [show stp v e = v by unfold stp; rw [if_pos q]] at hv; exact br_t q (s57 _ hv)
    · rw [show stp v e = 27 * v + e.toInt64 - 96 by unfold stp; rw [if_neg q]] at hv; exact br_f q (s57 _ hv)
  refine bX12_spelt_0 _ _ _ _ _ _ ?_
  by_cases q : c ≤ 0
  · rw [show stp (27 * (a.toInt64 - 96) + b.toInt64 - 96) c = 27 * (a.toInt64 - 96) + b.toInt64 - 96 by unfold stp; rw [if_pos q]] at h; exact br_t q (s38 _ h)
  · rw [show stp (27 * (a.toInt64 - 96) + b.toInt64 - 96) c = 27 * (27 * (a.toInt64 - 96) + b.toInt64 - 96) + c.toInt64 - 96 by unfold stp; rw [if_neg q]] at h; exact br_f q (s38 _ h)
theorem M_wordOf {k : Nat} (hk : k < 22) (h : FL (lN (vB 27 (wl k) 0)) I J) : ckL G (d + 1) mX12_wordOf [.int (nI k)] I J P K n FL := by
  refine bX12_wordOf_0 _ ⟨fun q => ?_, fun q => ?_, fun q => ?_, fun q => ?_, fun q => ?_, fun q => ?_, fun q => ?_, fun q => ?_, fun q => ?_, fun q => ?_, fun q => ?_, fun q => ?_, fun q => ?_, fun q => ?_, fun q => ?_, fun q => ?_, fun q => ?_, fun q => ?_, fun q => ?_, fun q => ?_, fun q => ?_, fun q0 q1 q2 q3 q4 q5 q6 q7 q8 q9 q10 q11 q12 q13 q14 q15 q16 q17 q18 q19 q20 => ?_⟩
  · have e : k = 0 := (nI_eq (b := 0) (by omega) (by decide)).mp q
    subst e
    exact M_spelt (by decide) h
  · have e : k = 1 := (nI_eq (b := 1) (by omega) (by decide)).mp q
    subst e
    exact M_spelt (by decide) h
  · have e : k = 2 := (nI_eq (b := 2) (by omega) (by decide)).mp q
    subst e
    exact M_spelt (by decide) h
  · have e : k = 3 := (nI_eq (b := 3) (by omega) (by decide)).mp q
    subst e
    exact M_spelt (by decide) h
  · have e : k = 4 := (nI_eq (b := 4) (by omega) (by decide)).mp q
    subst e
    exact M_spelt (by decide) h
  · have e : k = 5 := (nI_eq (b := 5) (by omega) (by decide)).mp q
    subst e
    exact M_spelt (by decide) h
  · have e : k = 6 := (nI_eq (b := 6) (by omega) (by decide)).mp q
    subst e
    exact M_spelt (by decide) h
  · have e : k = 7 := (nI_eq (b := 7) (by omega) (by decide)).mp q
    subst e
    exact M_spelt (by decide) h
  · have e : k = 8 := (nI_eq (b := 8) (by omega) (by decide)).mp q
    subst e
    exact M_spelt (by decide) h
  · have e : k = 9 := (nI_eq (b := 9) (by omega) (by decide)).mp q
    subst e
    exact M_spelt (by decide) h
  · have e : k = 10 := (nI_eq (b := 10) (by omega) (by decide)).mp q
    subst e
    exact M_spelt (by decide) h
  · have e : k = 11 := (nI_eq (b := 11) (by omega) (by decide)).mp q
    subst e
    exact M_spelt (by decide) h
  · have e : k = 12 := (nI_eq (b := 12) (by omega) (by decide)).mp q
    subst e
    exact M_spelt (by decide) h
  · have e : k = 13 := (nI_eq (b := 13) (by omega) (by decide)).mp q
    subst e
    exact M_spelt (by decide) h
  · have e : k = 14 := (nI_eq (b := 14) (by omega) (by decide)).mp q
    subst e
    exact M_spelt (by decide) h
  · have e : k = 15 := (nI_eq (b := 15) (by omega) (by decide)).mp q
    subst e
    exact M_spelt (by decide) h
  · have e : k = 16 := (nI_eq (b := 16) (by omega) (by decide)).mp q
    subst e
    exact M_spelt (by decide) h
  · have e : k = 17 := (nI_eq (b := 17) (by omega) (by decide)).mp q
    subst e
    exact M_spelt (by decide) h
  · have e : k = 18 := (nI_eq (b := 18) (by omega) (by decide)).mp q
    subst e
    exact M_spelt (by decide) h
  · have e : k = 19 := (nI_eq (b := 19) (by omega) (by decide)).mp q
    subst e
    exact M_spelt (by decide) h
  · have e : k = 20 := (nI_eq (b := 20) (by omega) (by decide)).mp q
    subst e
    exact M_spelt (by decide) h
  · have e : k = 21 := by
      have n0 : k ≠ 0 := fun e => q0 (by rw [e]; rfl)
      have n1 : k ≠ 1 := fun e => q1 (by rw [e]; rfl)
      have n2 : k ≠ 2 := fun e => q2 (by rw [e]; rfl)
      have n3 : k ≠ 3 := fun e => q3 (by rw [e]; rfl)
      have n4 : k ≠ 4 := fun e => q4 (by rw [e]; rfl)
      have n5 : k ≠ 5 := fun e => q5 (by rw [e]; rfl)
      have n6 : k ≠ 6 := fun e => q6 (by rw [e]; rfl)
      have n7 : k ≠ 7 := fun e => q7 (by rw [e]; rfl)
      have n8 : k ≠ 8 := fun e => q8 (by rw [e]; rfl)
      have n9 : k ≠ 9 := fun e => q9 (by rw [e]; rfl)
      have n10 : k ≠ 10 := fun e => q10 (by rw [e]; rfl)
      have n11 : k ≠ 11 := fun e => q11 (by rw [e]; rfl)
      have n12 : k ≠ 12 := fun e => q12 (by rw [e]; rfl)
      have n13 : k ≠ 13 := fun e => q13 (by rw [e]; rfl)
      have n14 : k ≠ 14 := fun e => q14 (by rw [e]; rfl)
      have n15 : k ≠ 15 := fun e => q15 (by rw [e]; rfl)
      have n16 : k ≠ 16 := fun e => q16 (by rw [e]; rfl)
      have n17 : k ≠ 17 := fun e => q17 (by rw [e]; rfl)
      have n18 : k ≠ 18 := fun e => q18 (by rw [e]; rfl)
      have n19 : k ≠ 19 := fun e => q19 (by rw [e]; rfl)
      have n20 : k ≠ 20 := fun e => q20 (by rw [e]; rfl)
      omega
    subst e
    exact M_spelt (by decide) h
end ModWord
