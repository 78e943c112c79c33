/-! the class: bits of a sentence -/
theorem bv_nI (a : Nat) : (nI a).toBitVec = BitVec.ofNat 32 a := rfl
theorem nI_or (a b : Nat) : nI a ||| nI b = nI (a ||| b) := by
  apply Int32.toBitVec_inj.mp
  show BitVec.ofNat 32 a ||| BitVec.ofNat 32 b = BitVec.ofNat 32 (a ||| b)
  exact BitVec.ofNat_or.symm
theorem nI_and (a b : Nat) : nI a &&& nI b = nI (a &&& b) := by
  apply Int32.toBitVec_inj.mp
  show BitVec.ofNat 32 a &&& BitVec.ofNat 32 b = BitVec.ofNat 32 (a &&& b)
  exact BitVec.ofNat_and.symm
theorem nI_xor (a b : Nat) : nI a ^^^ nI b = nI (a ^^^ b) := by
  apply Int32.toBitVec_inj.mp
  show BitVec.ofNat 32 a ^^^ BitVec.ofNat 32 b = BitVec.ofNat 32 (a ^^^ b)
  exact BitVec.ofNat_xor.symm
theorem n_or1 (x t : Nat) (ht : t < 2) : x ||| t = x / 2 * 2 + max (x % 2) t := by
  have h1 : (x ||| t) / 2 = x / 2 ||| t / 2 := Nat.or_div_two
  rw [show t / 2 = 0 by omega, Nat.or_zero] at h1
  have h2 : (x ||| t) % 2 = 1 ↔ x % 2 = 1 ∨ t % 2 = 1 := Nat.or_mod_two_eq_one
  have h3 : (x ||| t) % 2 < 2 := Nat.mod_lt _ (by decide)
  have h4 := Nat.div_add_mod (x ||| t) 2
  omega
theorem n_and1 (x : Nat) : x &&& 1 = x % 2 := Nat.and_one_is_mod x
theorem n_xor1 (x : Nat) : x ^^^ 1 = x / 2 * 2 + (1 - x % 2) := by
  have h1 : (x ^^^ 1) / 2 = x / 2 ^^^ 1 / 2 := Nat.xor_div_two
  rw [show 1 / 2 = 0 by rfl, Nat.xor_zero] at h1
  have h2 : (x ^^^ 1) % 2 = 1 ↔ ¬ (x % 2 = 1 ↔ 1 % 2 = 1) := Nat.xor_mod_two_eq_one
  have h3 : (x ^^^ 1) % 2 < 2 := Nat.mod_lt _ (by decide)
  have h4 := Nat.div_add_mod (x ^^^ 1) 2
  omega
theorem n_andE (x : Nat) (hx : x < 2 ^ 31) : x &&& (2 ^ 32 - 2) = x / 2 * 2 := by
  have h1 : (x &&& (2 ^ 32 - 2)) / 2 = x / 2 &&& (2 ^ 32 - 2) / 2 := Nat.and_div_two
  rw [show (2 ^ 32 - 2) / 2 = 2 ^ 31 - 1 by rfl, Nat.and_two_pow_sub_one_eq_mod] at h1
  have h2 : (x &&& (2 ^ 32 - 2)) % 2 = 1 ↔ x % 2 = 1 ∧ (2 ^ 32 - 2) % 2 = 1 := Nat.and_mod_two_eq_one
  have h3 : (x &&& (2 ^ 32 - 2)) % 2 < 2 := Nat.mod_lt _ (by decide)
  have h4 := Nat.div_add_mod (x &&& (2 ^ 32 - 2)) 2
  omega
theorem nI_shr1 {b : Nat} (hb : b < 2 ^ 31) : nI b >>> ((1 : Int32) &&& 31) = nI (b / 2) := by
  apply Int32.toInt_inj.mp
  show ((nI b).toBitVec.sshiftRight (((1 : Int32) &&& 31).toBitVec.smod 32).toNat).toInt = _
  rw [show (((1 : Int32) &&& 31).toBitVec.smod 32).toNat = 1 by decide +kernel, BitVec.toInt_sshiftRight]
  show (nI b).toInt >>> 1 = (nI (b / 2)).toInt
  rw [nI_toInt hb, nI_toInt (by omega), Int.shiftRight_eq_div_pow]
  rfl
theorem nI_shl1 {b : Nat} : nI b <<< ((1 : Int32) &&& 31) = nI (2 * b) := by
  apply Int32.toBitVec_inj.mp
  show (nI b).toBitVec <<< (((1 : Int32) &&& 31).toBitVec.smod 32).toNat = _
  rw [show (((1 : Int32) &&& 31).toBitVec.smod 32).toNat = 1 by decide +kernel, bv_nI, bv_nI]
  apply BitVec.eq_of_toNat_eq
  rw [BitVec.toNat_shiftLeft, BitVec.toNat_ofNat, BitVec.toNat_ofNat, Nat.shiftLeft_eq]
  omega
theorem e_or {b : Nat} (hb : b < 2 ^ 31) : (nI b >>> ((1 : Int32) &&& 31)) ||| (nI b &&& 1) = nI (b / 2 / 2 * 2 + max (b / 2 % 2) (b % 2)) := by
  rw [nI_shr1 hb, show (1 : Int32) = nI 1 from rfl, nI_and, n_and1, nI_or, n_or1 _ _ (Nat.mod_lt _ (by decide))]
theorem e_and {b : Nat} (hb : b < 2 ^ 31) : (nI b >>> ((1 : Int32) &&& 31)) &&& ((nI b &&& 1) ||| (-2)) = nI (b / 2 / 2 * 2 + min (b / 2 % 2) (b % 2)) := by
  rw [nI_shr1 hb, show (1 : Int32) = nI 1 from rfl, nI_and, n_and1]
  rcases Nat.mod_two_eq_zero_or_one b with e | e
  · rw [e, show (nI 0 ||| (-2 : Int32)) = nI (2 ^ 32 - 2) by decide +kernel, nI_and, n_andE _ (by omega)]
    congr 1
    omega
  · rw [e, show (nI 1 ||| (-2 : Int32)) = -1 by decide +kernel]
    have : nI (b / 2) &&& (-1 : Int32) = nI (b / 2) := by
      apply Int32.toBitVec_inj.mp
      show (nI (b / 2)).toBitVec &&& BitVec.allOnes 32 = _
      exact BitVec.and_allOnes
    rw [this]
    congr 1
    omega
theorem e_not (b : Nat) : nI b ^^^ 1 = nI (b / 2 * 2 + (1 - b % 2)) := by
  rw [show (1 : Int32) = nI 1 from rfl, nI_xor, n_xor1]
theorem e_pl (b : Nat) (v : Nat) (hv : v < 2) : (nI b <<< ((1 : Int32) &&& 31)) ||| nI v = nI (2 * b + v) := by
  rw [nI_shl1, nI_or, n_or1 _ _ hv]
  congr 1
  omega
theorem e_low (b : Nat) : (nI b &&& 1 = 1) ↔ b % 2 = 1 := by
  rw [show (1 : Int32) = nI 1 from rfl, nI_and, n_and1]
  exact nI_eq (by omega) (by decide)
