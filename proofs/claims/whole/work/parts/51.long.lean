/-! longs that are small numbers; texts -/
theorem c_lt {a b : Nat} (ha : a < 2 ^ 63) (hb : b < 2 ^ 63) : lg_cmp (lN a) (lN b) < 0 ↔ a < b := (lg_cmp_lt _ _).trans (pk_lLT ha hb)
/-- a word of letters 1 to 26, the first first -/
def okW (l : List Nat) : Prop := l ≠ [] ∧ l.length ≤ 7 ∧ ∀ x, x ∈ l → 1 ≤ x ∧ x ≤ 26
def vB (b : Nat) : List Nat → Nat → Nat
  | [], v => v
  | x :: l, v => vB b l (b * v + x)
theorem vB_snoc (b : Nat) (l : List Nat) (x v : Nat) : vB b (l ++ [x]) v = b * vB b l v + x := by
  induction l generalizing v with
  | nil => rfl
  | cons y l ih => exact ih _
theorem vB_lt {b : Nat} (l : List Nat) (v : Nat) (h : ∀ x, x ∈ l → x < b) : vB b l v < b ^ l.length * (v + 1) := by
  induction l generalizing v with
  | nil => simp [vB]
  | cons y l ih =>
    have hy := h y (List.mem_cons_self ..)
    have h1 := ih (b * v + y) (fun x hx => h x (List.mem_cons_of_mem _ hx))
    show vB b l (b * v + y) < b ^ (l.length + 1) * (v + 1)
    have h2 : b * v + y + 1 ≤ b * (v + 1) := by rw [Nat.mul_add]; omega
    have h3 : b ^ l.length * (b * v + y + 1) ≤ b ^ l.length * (b * (v + 1)) := Nat.mul_le_mul_left _ h2
    rw [Nat.pow_succ, Nat.mul_assoc]
    omega
def rTx (I : sI) (l : List Nat) : Prop := I 91 43 = nI l.length ∧ ∀ k, k < l.length → I 112 k = nI (l.getD k 0)
def frX (I I' : sI) : Prop := ∀ c k, c ≠ 112 → ¬ (c = 91 ∧ k = 43) → I' c k = I c k
theorem frX_rf (I : sI) : frX I I := fun _ _ _ _ => rfl
theorem frX_tr {I I' I2 : sI} (h : frX I I') (h2 : frX I' I2) : frX I I2 := fun c k a b => (h2 c k a b).trans (h c k a b)
section ModWrite
variable {G : gG} {d : Nat} {I : sI} {J : sJ} {P : sP} {K : sK} {n : Nat} {F : Int32 → sI → sJ → Prop} {FV : sI → sJ → Prop} {hd so : Nat → Nat}
theorem M_write {l : List Nat} (c : Nat) (hM : shM P K) (T : rTx I l) (hl : l.length < 64) (h : ∀ I', rTx I' (l ++ [c]) → frX I I' → FV I' J) : ckV G d mX12_write [.ref 91, .int (nI c)] I J P K n FV := by
  refine bX12_write_0 hM _ ?_
  rw [T.1, nI_ck (by omega), nI_1]
  refine ⟨nI_inN hl (by decide), h _ ⟨?_, fun k hk => ?_⟩ (fun e k a b => ?_)⟩
  · rw [u2_s, List.length_append]; rfl
  · rw [u2_a _ _ _ _ (by decide)]
    rw [List.length_append] at hk
    have hk : k < l.length + 1 := hk
    by_cases q : k = l.length
    · subst q
      rw [u2_s, List.getD_eq_getElem?_getD, List.getElem?_append_right (Nat.le_refl _)]
      simp
    · rw [u2_k _ _ _ _ q, T.2 k (by omega), List.getD_eq_getElem?_getD, List.getD_eq_getElem?_getD, List.getElem?_append_left (by omega)]
  · simp only [u2]
    rw [if_neg b, if_neg (fun g => a g.1)]
theorem M_writeWord {w : List Nat} (hM : shM P K) : ∀ (r : Nat) (w l : List Nat) (I : sI) (FV : sI → sJ → Prop), w.length = r + 1 → w.length ≤ 7 → (∀ x, x ∈ w → 1 ≤ x ∧ x ≤ 26) → rTx I l → l.length + w.length ≤ 64 → (∀ I', rTx I' (l ++ w.map (96 + ·)) → frX I I' → FV I' J) → ckV G (d + r + 1) mX12_writeWord [.ref 91, .long (lN (vB 27 w 0))] I J P K n FV := by
  intro r
  induction r with
  | zero =>
    intro w l I FV hw h7 hx T hl h
    match w, hw with
    | [x], _ =>
      have hx1 := hx x (by simp)
      have e : vB 27 [x] 0 = x := by simp [vB]
      rw [e]
      refine bX12_writeWord_0 hM _ (br_t ?_ (bX12_writeWord_17 hM _ ?_))
      · exact (c_lt (a := x) (b := 27) (by omega) (by decide)).mpr (by omega)
      · have e2 : lN x - lN x / 27 * 27 = lN (x % 27) := pk_lRem (b := 27) (by omega) (by decide) (by decide)
        rw [e2, lN_i, Nat.mod_eq_of_lt (by omega)]
        have e3 : (96 + nI x : Int32) = nI (96 + x) := by show nI 96 + nI x = _; rw [i_add]
        rw [e3]
        exact M_write (96 + x) hM T (by simp at hl; omega) h
  | succ r ih =>
    intro w l I FV hw h7 hx T hl h
    obtain ⟨w', x, rfl⟩ : ∃ w' x, w = w' ++ [x] := by
      have hne : w ≠ [] := fun e => by rw [e] at hw; cases hw
      exact ⟨w.dropLast, w.getLast hne, (List.dropLast_concat_getLast hne).symm⟩
    have hlen : w'.length = r + 1 := by rw [List.length_append] at hw; simp at hw; omega
    have hx1 := hx x (by simp)
    have hb := vB_lt (b := 27) (w' ++ [x]) 0 (fun y hy => by have := hx y hy; omega)
    have hb2 : (27 : Nat) ^ (w' ++ [x]).length ≤ 27 ^ 7 := Nat.pow_le_pow_right (by decide) h7
    have hv : 1 ≤ vB 27 w' 0 := by
      match w', hlen with
      | y :: t, _ =>
        have hy := hx y (by simp)
        have mono : ∀ (t : List Nat) (a : Nat), a ≤ vB 27 t a := by
          intro t
          induction t with
          | nil => intro a; exact Nat.le_refl _
          | cons z t ih => intro a; exact Nat.le_trans (by omega) (ih (27 * a + z))
        have := mono t (27 * 0 + y)
        show 1 ≤ vB 27 t (27 * 0 + y)
        omega
    rw [vB_snoc] at hb ⊢
    have hbig : 27 * vB 27 w' 0 + x < 27 ^ 7 := by omega
    have hbig2 : (27 : Nat) ^ 7 < 2 ^ 62 := by decide
    refine bX12_writeWord_0 hM _ (br_f ?_ ?_)
    · intro q
      have := (c_lt (b := 27) (by omega) (by decide)).mp q
      omega
    · have e1 : lN (27 * vB 27 w' 0 + x) / 27 = lN (vB 27 w' 0) := by
        have := pk_lDiv (a := 27 * vB 27 w' 0 + x) (b := 27) (by omega) (by decide) (by decide)
        have e : (27 * vB 27 w' 0 + x) / 27 = vB 27 w' 0 := by omega
        rw [e] at this
        exact this
      rw [e1]
      refine ih w' l I _ hlen (by omega) (fun y hy => hx y (by simp [hy])) T (by rw [List.length_append] at hl; omega) (fun I1 T1 f1 => bX12_writeWord_17 hM _ ?_)
      have e2 : lN (27 * vB 27 w' 0 + x) - lN (27 * vB 27 w' 0 + x) / 27 * 27 = lN ((27 * vB 27 w' 0 + x) % 27) := pk_lRem (b := 27) (by omega) (by decide) (by decide)
      rw [e2, lN_i, show (27 * vB 27 w' 0 + x) % 27 = x by omega]
      have e3 : (96 + nI x : Int32) = nI (96 + x) := by show nI 96 + nI x = _; rw [i_add]
      rw [e3]
      refine M_write (96 + x) hM T1 (by simp at hl ⊢; omega) (fun I2 T2 f2 => h I2 ?_ (frX_tr f1 f2))
      rw [List.map_append, ← List.append_assoc]
      exact T2
end ModWrite
