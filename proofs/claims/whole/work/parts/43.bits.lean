/-! sets of casks as bits -/
def bit (x : Int32) (k : Nat) : Bool := x.toBitVec.getLsbD k
theorem and1 (y : Int32) : (y &&& 1 = 1) ↔ bit y 0 = true := by
  rw [← Int32.toBitVec_inj, Int32.toBitVec_and, bit]
  constructor
  · intro h
    have := congrArg (fun z => z.getLsbD 0) h
    simpa using this
  · intro h
    apply BitVec.eq_of_getLsbD_eq
    intro i hi
    rw [BitVec.getLsbD_and]
    by_cases q : i = 0
    · subst q; rw [h]; rfl
    · have e : (1 : Int32).toBitVec.getLsbD i = false := by
        show (1#32).getLsbD i = false
        rw [BitVec.getLsbD_one]
        simp [q]
      rw [e, Bool.and_false]
theorem sh_amt : ∀ k, k < 32 → ((nI k &&& 31).toBitVec.smod 32).toNat = k := by decide
theorem has_bit (x : Int32) {k : Nat} (h : k < 32) : ((x >>> (nI k &&& 31)) &&& 1 = 1) ↔ bit x k = true := by
  rw [and1]
  have e : (x >>> (nI k &&& 31)).toBitVec = x.toBitVec.sshiftRight' ((nI k &&& 31).toBitVec.smod 32) := rfl
  unfold bit
  rw [e, BitVec.sshiftRight', sh_amt k h, BitVec.getLsbD_sshiftRight]
  simp [h]
theorem bit_or (x y : Int32) (k : Nat) : bit (x ||| y) k = (bit x k || bit y k) := by
  unfold bit
  rw [Int32.toBitVec_or, BitVec.getLsbD_or]
theorem bit_one : ∀ j, j < 20 → ∀ k, k < 20 → bit (1 <<< (nI j &&& 31)) k = decide (k = j) := by decide +kernel
theorem bit_0 (k : Nat) : bit 0 k = false := by
  show (0#32).getLsbD k = false
  simp
theorem bit_bs (b : Nat → Bool) {m : Nat} (hm : m ≤ 20) {k : Nat} (hk : k < 20) : bit (bs b m) k = (decide (k < m) && b k) := by
  induction m with
  | zero => simp [bs, bit_0]
  | succ m ih =>
    have ih := ih (by omega)
    simp only [bs]
    by_cases q : k = m
    · subst q
      cases e : b k
      · simp [ih]
      · rw [if_pos rfl, bit_or, bit_one k (by omega) k hk]; simp
    · have e2 : decide (k < m + 1) = decide (k < m) := decide_eq_decide.mpr (by omega)
      cases e : b m
      · rw [if_neg (by simp), ih, e2]
      · rw [if_pos rfl, bit_or, bit_one m (by omega) k hk, ih, e2]; simp [q]
section ModBits
variable {G : gG} {d : Nat} {I : sI} {J : sJ} {P : sP} {K : sK} {n : Nat} {F : Int32 → sI → sJ → Prop} {FV : sI → sJ → Prop} {hd so : Nat → Nat}
theorem M_has (x : Int32) {k : Nat} (hk : k < 32) (h : F (b01 (bit x k)) I J) : ckI G d mX12_has [.int x, .int (nI k)] I J P K n F := by
  refine bX12_has_0 _ _ ?_
  by_cases q : bit x k = true
  · rw [q] at h
    exact br_t ((has_bit x hk).mpr q) h
  · rw [Bool.not_eq_true] at q
    rw [q] at h
    exact br_f (fun e => by rw [(has_bit x hk).mp e] at q; cases q) h
end ModBits
