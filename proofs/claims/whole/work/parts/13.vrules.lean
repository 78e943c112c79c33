section VRules
variable {G : gG} {d : Nat} {M : gM} {pc : Nat} {L : List (Option Value)} {st : List Value} {I I' : sI} {J J' : sJ} {P P' : sP} {K : sK} {n : Nat} {Q Q' : gQ}
theorem ok_istore_nV {k : Fin 4} {x : Int32} (L' : List (Option Value)) (hd : decode M.2.1 pc = .ok (.istore_n k, 1)) (hi : (k : Nat) < M.2.2.1) (he : st1 L (k : Nat) (.int x) = L') (h : Ok G d M (pc + 1) L' st I J P K n Q) : Ok G d M pc L (.int x :: st) I J P K n Q := by
  subst he; exact ok_istore_n hd hi h
theorem ok_istoreV {k : Nat} {x : Int32} (L' : List (Option Value)) (hd : decode M.2.1 pc = .ok (.istore k, 2)) (hi : k < M.2.2.1) (he : st1 L k (.int x) = L') (h : Ok G d M (pc + 2) L' st I J P K n Q) : Ok G d M pc L (.int x :: st) I J P K n Q := by
  subst he; exact ok_istore hd hi h
theorem ok_astore_nV {k : Fin 4} {x : Nat} (L' : List (Option Value)) (hd : decode M.2.1 pc = .ok (.astore_n k, 1)) (hi : (k : Nat) < M.2.2.1) (he : st1 L (k : Nat) (.ref x) = L') (h : Ok G d M (pc + 1) L' st I J P K n Q) : Ok G d M pc L (.ref x :: st) I J P K n Q := by
  subst he; exact ok_astore_n hd hi h
theorem ok_astore_nNV {k : Fin 4} (L' : List (Option Value)) (hd : decode M.2.1 pc = .ok (.astore_n k, 1)) (hi : (k : Nat) < M.2.2.1) (he : st1 L (k : Nat) .null = L') (h : Ok G d M (pc + 1) L' st I J P K n Q) : Ok G d M pc L (.null :: st) I J P K n Q := by
  subst he; exact ok_astore_nN hd hi h
theorem ok_astoreV {k : Nat} {x : Nat} (L' : List (Option Value)) (hd : decode M.2.1 pc = .ok (.astore k, 2)) (hi : k < M.2.2.1) (he : st1 L k (.ref x) = L') (h : Ok G d M (pc + 2) L' st I J P K n Q) : Ok G d M pc L (.ref x :: st) I J P K n Q := by
  subst he; exact ok_astore hd hi h
theorem ok_lstore_nV {k : Fin 4} {x : Int64} (L' : List (Option Value)) (hd : decode M.2.1 pc = .ok (.lstore_n k, 1)) (hi : (k : Nat) + 1 < M.2.2.1) (he : st2 L (k : Nat) (.long x) = L') (h : Ok G d M (pc + 1) L' st I J P K n Q) : Ok G d M pc L (.long x :: st) I J P K n Q := by
  subst he; exact ok_lstore_n hd hi h
theorem ok_lstoreV {k : Nat} {x : Int64} (L' : List (Option Value)) (hd : decode M.2.1 pc = .ok (.lstore k, 2)) (hi : k + 1 < M.2.2.1) (he : st2 L k (.long x) = L') (h : Ok G d M (pc + 2) L' st I J P K n Q) : Ok G d M pc L (.long x :: st) I J P K n Q := by
  subst he; exact ok_lstore hd hi h
theorem ok_iincW {k : Nat} {z : Int} {x : Int32} (v : Int32) (L' : List (Option Value)) (hd : decode M.2.1 pc = .ok (.iinc k z, 3)) (hi : k < M.2.2.1) (hl : L[k]? = some (some (.int x))) (he : x + Int32.ofInt z = v) (hL : st1 L k (.int v) = L') (h : Ok G d M (pc + 3) L' st I J P K n Q) : Ok G d M pc L st I J P K n Q := by
  subst hL; exact ok_iincV v hd hi hl he h
theorem ok_getPV {ci j idx a b : Nat} {q : vw_C} (hd : decode M.2.1 pc = .ok (.getfield idx, 3)) (hF : FI M.1.cls idx ci j q) (ht : tyRef (gTy ci j) = true) (hk : (K a).1 = ci) (hp : P a j = some b) (h : Ok G d M (pc + 3) L (.ref b :: st) I J P K n Q) : Ok G d M pc L (.ref a :: st) I J P K n Q :=
  ok_getP hd hF ht ⟨hk, b, hp, h⟩
theorem ok_ialoadV {a len : Nat} {i : Int32} (v : Int32) (hk : K a = (13, len)) (hd : decode M.2.1 pc = .ok (.iaload, 1)) (hi : vp_in i len) (he : I a i.toNatClampNeg = v) (h : Ok G d M (pc + 1) L (.int v :: st) I J P K n Q) : Ok G d M pc L (.int i :: .ref a :: st) I J P K n Q := by
  subst he; exact ok_iaload hd ⟨by rw [hk], by rw [hk]; exact hi, h⟩
theorem ok_laloadV {a len : Nat} {i : Int32} (v : Int64) (hk : K a = (14, len)) (hd : decode M.2.1 pc = .ok (.laload, 1)) (hi : vp_in i len) (he : J a i.toNatClampNeg = v) (h : Ok G d M (pc + 1) L (.long v :: st) I J P K n Q) : Ok G d M pc L (.int i :: .ref a :: st) I J P K n Q := by
  subst he; exact ok_laload hd ⟨by rw [hk], by rw [hk]; exact hi, h⟩
theorem ok_baloadV {a len : Nat} {i : Int32} (v : Int32) (hk : K a = (15, len)) (hd : decode M.2.1 pc = .ok (.baload, 1)) (hi : vp_in i len) (he : I a i.toNatClampNeg = v) (h : Ok G d M (pc + 1) L (.int v :: st) I J P K n Q) : Ok G d M pc L (.int i :: .ref a :: st) I J P K n Q := by
  subst he; exact ok_baload hd ⟨by rw [hk], by rw [hk]; exact hi, h⟩
theorem ok_aaloadV {a b len : Nat} {i : Int32} (hk : K a = (18, len)) (hd : decode M.2.1 pc = .ok (.aaload, 1)) (hi : vp_in i len) (hp : P a i.toNatClampNeg = some b) (h : Ok G d M (pc + 1) L (.ref b :: st) I J P K n Q) : Ok G d M pc L (.int i :: .ref a :: st) I J P K n Q :=
  ok_aaload hd ⟨by rw [hk], by rw [hk]; exact hi, b, hp, h⟩
theorem ok_iastoreV {a len : Nat} {i x : Int32} (hk : K a = (13, len)) (hd : decode M.2.1 pc = .ok (.iastore, 1)) (hi : vp_in i len) (h : Ok G d M (pc + 1) L st (u2 I a i.toNatClampNeg x) J P K n Q) : Ok G d M pc L (.int x :: .int i :: .ref a :: st) I J P K n Q :=
  ok_iastore hd ⟨by rw [hk], by rw [hk]; exact hi, h⟩
theorem ok_lastoreV {a len : Nat} {i : Int32} {x : Int64} (hk : K a = (14, len)) (hd : decode M.2.1 pc = .ok (.lastore, 1)) (hi : vp_in i len) (h : Ok G d M (pc + 1) L st I (u2 J a i.toNatClampNeg x) P K n Q) : Ok G d M pc L (.long x :: .int i :: .ref a :: st) I J P K n Q :=
  ok_lastore hd ⟨by rw [hk], by rw [hk]; exact hi, h⟩
theorem ok_bastoreV {a len : Nat} {i : Int32} (hk : K a = (15, len)) (hd : decode M.2.1 pc = .ok (.bastore, 1)) (hi : vp_in i len) (h : Ok G d M (pc + 1) L st (u2 I a i.toNatClampNeg 1) J P K n Q) : Ok G d M pc L (.int 1 :: .int i :: .ref a :: st) I J P K n Q :=
  ok_bastore1 hd ⟨by rw [hk], by rw [hk]; exact hi, h⟩
theorem ok_alenV {a len : Nat} (v : Int32) (hk : K a = (13, len)) (hd : decode M.2.1 pc = .ok (.arraylength, 1)) (he : nI len = v) (h : Ok G d M (pc + 1) L (.int v :: st) I J P K n Q) : Ok G d M pc L (.ref a :: st) I J P K n Q := by
  subst he; exact ok_alen hd ⟨by rw [hk], by rw [hk]; exact h⟩
theorem nar_b {v : Int32} (h : v = 0 ∨ v = 1) : narrow .boolean (.int v) = .int v := by rcases h with e | e <;> subst e <;> decide
end VRules
