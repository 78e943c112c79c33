/-! the reference: the tape; images; what stays -/
def byt (w : Int32) (k : Nat) : Nat := w.toUInt32.toNat / 2 ^ k % 256
theorem byt_le (w : Int32) (k : Nat) : byt w k ≤ 255 := by
  have := Nat.mod_lt (w.toUInt32.toNat / 2 ^ k) (show 0 < 256 by decide)
  unfold byt
  omega
theorem and255 (m : Nat) : nI m &&& 255 = nI (m % 256) := by
  apply Int32.toBitVec_inj.mp
  rw [Int32.toBitVec_and]
  apply BitVec.eq_of_toNat_eq
  rw [BitVec.toNat_and]
  have e1 : (nI m).toBitVec.toNat = m % 4294967296 := rfl
  have e2 : (255 : Int32).toBitVec.toNat = 2 ^ 8 - 1 := rfl
  have e3 : (nI (m % 256)).toBitVec.toNat = m % 256 % 4294967296 := rfl
  rw [e1, e2, e3, Nat.and_two_pow_sub_one_eq_mod]
  omega
theorem byt_is (w x : Int32) (k : Nat) (hx : (x.toUInt32 &&& Int32.toUInt32 31).toNat % 32 = k) : (w.toUInt32 >>> (x.toUInt32 &&& Int32.toUInt32 31)).toInt32 &&& 255 = nI (byt w k) := by
  rw [u_nI, and255, UInt32.toNat_shiftRight, hx, Nat.shiftRight_eq_div_pow]
  rfl
def cm (tp : Nat → Nat) (tl : Nat) (w : Int32) (j : Nat) : Nat := if j = tl then byt w 24 else if j = tl + 1 then byt w 16 else if j = tl + 2 then byt w 8 else if j = tl + 3 then byt w 0 else tp j
section ModTape
variable {G : gG} {d : Nat} {I : sI} {J : sJ} {P : sP} {K : sK} {n : Nat} {F : Int32 → sI → sJ → Prop} {FV : sI → sJ → Prop} {hd so : Nat → Nat}
def frTp (I I' : sI) : Prop := ∀ c k, c ≠ 92 → ¬ (c = 91 ∧ k = 2) → I' c k = I c k
theorem frTp_tr {I I' I2 : sI} (h : frTp I I') (h2 : frTp I' I2) : frTp I I2 := fun c k a b => (h2 c k a b).trans (h c k a b)
theorem M_come1 {t : Nat} {w x : Int32} (k : Nat) (hM : shM P K) (ht : I 91 2 = nI t) (ht2 : t < 940) (h0 : ¬ x < 0) (hx : (x.toUInt32 &&& Int32.toUInt32 31).toNat % 32 = k) (h : ∀ I', I' 91 2 = nI (t + 1) → I' 92 t = nI (byt w k) → (∀ j, j ≠ t → I' 92 j = I 92 j) → frTp I I' → Ok G d mX12_come 3 [some (.ref 91), some (.int w), some (.int (x + (-8)))] [] I' J P K n (kV P K n FV)) : Ok G d mX12_come 3 [some (.ref 91), some (.int w), some (.int x)] [] I J P K n (kV P K n FV) := by
  refine bX12_come_3 hM _ _ (br_f h0 ?_)
  rw [ht, nI_ck (by omega), byt_is w x k hx, nI_1]
  refine ⟨nI_inN ht2 (by decide), h _ (u2_s _ _ _ _) ?_ (fun j hj => ?_) (fun c j a b => ?_)⟩
  · rw [u2_a _ _ _ _ (by decide), u2_s]
  · rw [u2_a _ _ _ _ (by decide), u2_k _ _ _ _ hj]
  · simp only [u2]
    rw [if_neg b, if_neg (fun e => a e.1)]
theorem M_come {tl : Nat} {tp : Nat → Nat} (w : Int32) (hM : shM P K) (T : rT I tl tp) (hl : tl + 4 ≤ 940) (h : ∀ I', rT I' (tl + 4) (cm tp tl w) → frTp I I' → FV I' J) : ckV G d mX12_come [.ref 91, .int w] I J P K n FV := by
  obtain ⟨T1, T2, T3⟩ := T
  refine bX12_come_0 _ ?_
  refine M_come1 24 hM T1 (by omega) (by decide) (by decide) (fun I1 a1 b1 c1 f1 => ?_)
  refine M_come1 16 hM a1 (by omega) (by decide) (by decide) (fun I2 a2 b2 c2 f2 => ?_)
  refine M_come1 8 hM a2 (by omega) (by decide) (by decide) (fun I3 a3 b3 c3 f3 => ?_)
  refine M_come1 0 hM a3 (by omega) (by decide) (by decide) (fun I4 a4 b4 c4 f4 => ?_)
  refine bX12_come_3 hM _ _ (br_t (by decide) (h I4 ⟨a4, hl, fun j hj => ?_⟩ (frTp_tr f1 (frTp_tr f2 (frTp_tr f3 f4)))))
  unfold cm
  by_cases q0 : j = tl
  · subst q0
    rw [c4 j (by omega), c3 j (by omega), c2 j (by omega), b1, if_pos rfl]
    exact ⟨rfl, byt_le _ _⟩
  by_cases q1 : j = tl + 1
  · subst q1
    rw [c4 _ (by omega), c3 _ (by omega), b2, if_neg q0, if_pos rfl]
    exact ⟨rfl, byt_le _ _⟩
  by_cases q2 : j = tl + 2
  · subst q2
    rw [c4 _ (by omega), b3, if_neg q0, if_neg q1, if_pos rfl]
    exact ⟨rfl, byt_le _ _⟩
  by_cases q3 : j = tl + 3
  · subst q3
    rw [b4, if_neg q0, if_neg q1, if_neg q2, if_pos rfl]
    exact ⟨rfl, byt_le _ _⟩
  rw [c4 j q3, c3 j q2, c2 j q1, c1 j q0, if_neg q0, if_neg q1, if_neg q2, if_neg q3]
  exact T3 j (by omega)
theorem rT_91 {tl : Nat} {tp : Nat → Nat} (T : rT I tl tp) (v : Int32) : rT (u2 I 91 0 v) tl tp := ⟨(u2_k _ _ _ _ (by decide)).trans T.1, T.2.1, fun j hj => ⟨(u2_a _ _ _ _ (by decide)).trans (T.2.2 j hj).1, (T.2.2 j hj).2⟩⟩
def fdT (tp : Nat → Nat) (tl : Nat) (a b c e f : Int32) : Nat → Nat := cm (cm (cm (cm (cm tp tl a) (tl + 4) b) (tl + 8) c) (tl + 12) e) (tl + 16) f
theorem M_feed {tl : Nat} {tp : Nat → Nat} (a b c e f : Int32) (hM : shM P K) (T : rT I tl tp) (h : ∀ I', rT I' (if tl ≤ 920 then tl + 20 else tl) (if tl ≤ 920 then fdT tp tl a b c e f else tp) → frTp (u2 I 91 0 0) I' → F (if tl ≤ 920 then nI (tl + 20) else -1) I' J) : ckI G (d + 1) mX12_feed [.ref 91, .int a, .int b, .int c, .int e, .int f] I J P K n F := by
  have T1 := rT_91 T 0
  have T2 := T.2.1
  refine bX12_feed_0 hM _ _ _ _ _ ?_
  have e20 : I 91 2 + 20 = nI (tl + 20) := by rw [T.1]; show nI tl + nI 20 = _; rw [i_add]
  rw [e20]
  by_cases q : tl ≤ 920
  · simp only [q, if_true] at h
    refine br_t (nI_le (b := 940) (by omega) (by decide)) (M_come a hM T1 (by omega) (fun I1 A1 f1 => M_come b hM A1 (by omega) (fun I2 A2 f2 => M_come c hM A2 (by omega) (fun I3 A3 f3 => M_come e hM A3 (by omega) (fun I4 A4 f4 => M_come f hM A4 (by omega) (fun I5 A5 f5 => ?_))))))
    rw [A5.1]
    exact h I5 A5 (frTp_tr f1 (frTp_tr f2 (frTp_tr f3 (frTp_tr f4 f5))))
  · simp only [q, if_false] at h
    exact br_f (nI_ge (a := 940) (by omega) (by omega)) (h _ T1 (fun _ _ _ _ => rfl))
theorem M_end {tl : Nat} {tp : Nat → Nat} (x : Int32) (hM : shM P K) (T : rT I tl tp) (h : ∀ I', rT I' (if inB x (tl + 1) then cl x else tl) tp → frTp (u2 I 91 0 0) I' → F (b01 (inB x (tl + 1))) I' J) : ckI G d mX12_end [.ref 91, .int x] I J P K n F := by
  have T1 := rT_91 T 0
  have T2 := T.2.1
  refine bX12_end_0 hM _ ?_
  rw [T.1]
  have no : inB x (tl + 1) = false → F 0 (u2 I 91 0 0) J := by
    intro e
    rw [e] at h
    exact h _ T1 (fun _ _ _ _ => rfl)
  rcases i_cases x with q | ⟨j, hj, rfl⟩
  · refine br_t q (no ?_)
    cases e : inB x (tl + 1)
    · rfl
    · obtain ⟨k, hk, e2⟩ := inB_t e
      exact absurd e2 (neg_ne q (by omega))
  · refine br_f (nI_pos (by omega)) ?_
    by_cases q : j ≤ tl
    · rw [inB_nI (by omega) (by omega), if_pos rfl, cl_nI (by omega)] at h
      refine br_t (nI_le q (by omega)) (h _ ⟨u2_s _ _ _ _, by omega, fun i hi => ?_⟩ (fun c k _ g => ?_))
      · rw [u2_a _ _ _ _ (by decide)]; exact T1.2.2 i (by omega)
      · simp only [u2]
        rw [if_neg g]
    · refine br_f (nI_ge (by omega) (by omega)) (no ?_)
      cases e : inB (nI j) (tl + 1)
      · rfl
      · obtain ⟨k, hk, e2⟩ := inB_t e
        have := (nI_eq (by omega) (by omega)).mp e2
        omega
theorem M_byteAt {tx : Nat} {tt : Nat → Nat} (x : Int32) (hM : shM P K) (ht : tx ≤ 64) (T1 : I 91 43 = nI tx) (T2 : ∀ k, k < tx → I 112 k = nI (tt k)) (h : F (if inB x tx then nI (tt (cl x)) else -1) (u2 I 91 0 0) J) : ckI G (d + 1) mX12_byteAt [.ref 91, .int x] I J P K n F := by
  refine bX12_byteAt_0 hM _ ?_
  rw [T1]
  refine M_isIn _ _ _ ?_
  rw [isB_0 x (by omega)]
  refine b01n (fun e => ?_) (fun e => ?_)
  · rw [e] at h; exact h
  · obtain ⟨k, hk, rfl⟩ := inB_t e
    rw [e, if_pos rfl, cl_nI (by omega)] at h
    rw [nI_ck (by omega), u2_a _ _ _ _ (by decide), T2 k hk]
    exact ⟨nI_inN (by omega) (by decide), h⟩
/-- what book wrote -/
def rWr (I : sI) (wr : Option (Nat → Int32)) : Prop := match wr with
  | none => I 91 48 = 0
  | some g => I 91 48 = 1 ∧ ∀ k, k < 4 → I 114 k = g k
theorem M_told {wr : Option (Nat → Int32)} (x : Int32) (hM : shM P K) (W : rWr I wr) (h : F (match wr with | none => -1 | some g => if inB x 4 then g (cl x) else -1) (u2 I 91 0 0) J) : ckI G (d + 1) mX12_told [.ref 91, .int x] I J P K n F := by
  refine bX12_told_0 hM _ ?_
  cases wr with
  | none => exact br_t W h
  | some g =>
    have e0 := isB_0 x (N := 4) (by decide)
    have e3 : (nI 4 - 1 : Int32) = 3 := by decide
    rw [e3] at e0
    refine br_f (by rw [W.1]; decide) (M_isIn _ _ _ ?_)
    rw [e0]
    refine b01n (fun e => ?_) (fun e => ?_)
    · simp only [e, Bool.false_eq_true, if_false] at h; exact h
    · obtain ⟨k, hk, rfl⟩ := inB_t e
      simp only [e, if_true] at h
      rw [cl_nI (by omega)] at h
      rw [nI_ck (by omega), u2_a _ _ _ _ (by decide), W.2 k hk]
      exact ⟨nI_inN (by omega) (by decide), h⟩
end ModTape
