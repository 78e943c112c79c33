/-! the reference: reading tokens -/
theorem vB_inj {b : Nat} : ∀ (m : Nat) (x y : List Nat), x.length = m → (∀ a, a ∈ x → 1 ≤ a ∧ a < b) → (∀ a, a ∈ y → 1 ≤ a ∧ a < b) → vB b x 0 = vB b y 0 → x = y := by
  have pos : ∀ (t : List Nat) (x v : Nat), 1 ≤ b → (1 ≤ vB b (t ++ [x]) v ∨ x = 0) := fun t x v _ => by
    rw [vB_snoc]; omega
  intro m
  induction m with
  | zero =>
    intro x y hx _ hy e
    have hx : x = [] := List.eq_nil_of_length_eq_zero hx
    subst hx
    by_cases q : y = []
    · exact q.symm
    · exfalso
      rw [← List.dropLast_concat_getLast q, vB_snoc] at e
      have := hy (y.getLast q) (List.getLast_mem q)
      have e : 0 = b * vB b y.dropLast 0 + y.getLast q := e
      omega
  | succ m ih =>
    intro x y hm hx hy e
    have qx : x ≠ [] := fun g => by rw [g] at hm; cases hm
    have h1 := hx (x.getLast qx) (List.getLast_mem qx)
    by_cases q : y = []
    · exfalso
      subst q
      rw [← List.dropLast_concat_getLast qx, vB_snoc] at e
      have e : b * vB b x.dropLast 0 + x.getLast qx = 0 := e
      omega
    · have h2 := hy (y.getLast q) (List.getLast_mem q)
      have e0 := e
      rw [← List.dropLast_concat_getLast qx, ← List.dropLast_concat_getLast q, vB_snoc, vB_snoc] at e
      have r1 : (b * vB b x.dropLast 0 + x.getLast qx) % b = x.getLast qx := by rw [Nat.mul_add_mod]; exact Nat.mod_eq_of_lt h1.2
      have r2 : (b * vB b y.dropLast 0 + y.getLast q) % b = y.getLast q := by rw [Nat.mul_add_mod]; exact Nat.mod_eq_of_lt h2.2
      have el : x.getLast qx = y.getLast q := by rw [← r1, ← r2, e]
      have ev : vB b x.dropLast 0 = vB b y.dropLast 0 := by
        rw [el] at e
        have : b * vB b x.dropLast 0 = b * vB b y.dropLast 0 := by omega
        exact Nat.eq_of_mul_eq_mul_left (by omega) this
      have ed := ih x.dropLast y.dropLast (by rw [List.length_dropLast]; omega) (fun a ha => hx a (List.dropLast_subset _ ha)) (fun a ha => hy a (List.dropLast_subset _ ha)) ev
      rw [← List.dropLast_concat_getLast qx, ← List.dropLast_concat_getLast q, ed, el]
theorem okW_lt {w : List Nat} (h : okW w) : vB 27 w 0 < 2 ^ 63 := by
  have h1 := vB_lt (b := 27) w 0 (fun x hx => by have := h.2.2 x hx; omega)
  have h2 : (27 : Nat) ^ w.length ≤ 27 ^ 7 := Nat.pow_le_pow_right (by decide) h.2.1
  have h3 : (27 : Nat) ^ 7 < 2 ^ 62 := by decide
  omega
theorem okW_eq {a b : List Nat} (ha : okW a) (hb : okW b) : lN (vB 27 a 0) = lN (vB 27 b 0) ↔ a = b := by
  rw [pk_lEQ (okW_lt ha) (okW_lt hb)]
  constructor
  · exact vB_inj a.length a b rfl (fun x hx => by have := ha.2.2 x hx; omega) (fun x hx => by have := hb.2.2 x hx; omega)
  · intro e; rw [e]
theorem wl_ok : ∀ k, k < 22 → okW (wl k) := by
  intro k hk
  unfold okW
  have : ∀ k, k < 22 → wl k ≠ [] ∧ (wl k).length ≤ 7 ∧ ∀ x, x ∈ wl k → 1 ≤ x ∧ x ≤ 26 := by decide
  exact this k hk
section ModParse
variable {G : gG} {d : Nat} {I : sI} {J : sJ} {P : sP} {K : sK} {n : Nat} {F : Int32 → sI → sJ → Prop} {FV : sI → sJ → Prop} {sz lm : Nat} {tp : Nat → Nat} {t : tokT}
def isW (t : tokT) (k : Nat) : Bool := decide (t.1 = 2) && decide (t.2.2.2.2 = wl k)
def isS (t : tokT) (c : Nat) : Bool := decide (t.1 = 4) && decide (t.2.2.2.1 = c)
def okT (t : tokT) (sz : Nat) : Prop := t.1 ≤ 4 ∧ t.2.2.1 ≤ sz ∧ t.2.1 ≤ 1000 ∧ (t.1 = 2 → okW t.2.2.2.2) ∧ t.2.2.2.1 ≤ 999
theorem M_isWord {k : Nat} (hk : k < 22) (hM : shM P K) (T : rTok I J t) (o : okT t sz) (h : F (b01 (isW t k)) I J) : ckI G (d + 2) mX12_isWord [.ref 91, .int (nI k)] I J P K n F := by
  obtain ⟨T1, -, -, -, -, T6⟩ := T
  obtain ⟨o1, -, -, o4, -⟩ := o
  refine bX12_isWord_0 hM _ ?_
  rw [T1]
  unfold isW at h
  by_cases q : t.1 = 2
  · rw [decide_eq_true q, Bool.true_and] at h
    refine br_t (by rw [q]; rfl) (M_wordOf hk ?_)
    rw [T6 q]
    by_cases q2 : t.2.2.2.2 = wl k
    · rw [decide_eq_true q2] at h
      exact br_t ((lg_cmp_eq _ _).mpr (by rw [q2])) h
    · rw [decide_eq_false q2] at h
      exact br_f (fun e => q2 ((okW_eq (o4 q) (wl_ok k hk)).mp ((lg_cmp_eq _ _).mp e))) h
  · rw [decide_eq_false q, Bool.false_and] at h
    exact br_f (fun e => q ((nI_eq (b := 2) (by omega) (by decide)).mp e)) h
theorem M_isSign {c : Nat} (hc : c < 1000) (hM : shM P K) (T : rTok I J t) (o : okT t sz) (h : F (b01 (isS t c)) I J) : ckI G d mX12_isSign [.ref 91, .int (nI c)] I J P K n F := by
  obtain ⟨T1, -, -, T4, -, -⟩ := T
  obtain ⟨o1, -, -, -, o5⟩ := o
  refine bX12_isSign_0 hM _ ?_
  rw [T1]
  unfold isS at h
  by_cases q : t.1 = 4
  · rw [decide_eq_true q, Bool.true_and] at h
    refine br_t (by rw [q]; rfl) ?_
    rw [T4 q]
    by_cases q2 : t.2.2.2.1 = c
    · rw [decide_eq_true q2] at h
      exact br_t (by rw [q2]) h
    · rw [decide_eq_false q2] at h
      exact br_f (fun e => q2 ((nI_eq (by omega) (by omega)).mp e)) h
  · rw [decide_eq_false q, Bool.false_and] at h
    exact br_f (fun e => q ((nI_eq (b := 4) (by omega) (by decide)).mp e)) h
end ModParse
