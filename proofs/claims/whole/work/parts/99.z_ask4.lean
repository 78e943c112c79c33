/-! the class: fault, ask, stored, end -/
section Ask9
variable {G : gG} {d : Nat} {I : sI} {J : sJ} {P : sP} {K : sK} {n : Nat} {F : Int32 → sI → sJ → Prop}
theorem C_fault (hX : shX P K) (h : F (I 0 3) I J) : ckI G d mX11_fault [.ref 0] I J P K n F := bX11_fault_0 hX h
theorem C_ask (hX : shX P K) (h : F (I 10 2) I J) : ckI G d mX11_ask [.ref 0] I J P K n F := bX11_ask_0 hX h
theorem C_stored (hX : shX P K) (h : F (I 10 3) I J) : ckI G d mX11_stored [.ref 0] I J P K n F := bX11_stored_0 hX h
theorem C_end (x : Int32) {tl : Nat} (hX : shX P K) (e1 : I 0 1 = nI tl) (ht : tl ≤ 940) (h0 : inB x (tl + 1) = false → F 0 I J) (h1 : ∀ k, k ≤ tl → x = nI k → F 1 (u2 I 0 1 (nI k)) J) : ckI G d mX11_end [.ref 0, .int x] I J P K n F := by
  refine bX11_end_0 hX _ ?_
  rw [e1]
  cases e : inB x (tl + 1) with
  | true =>
    obtain ⟨k, hk, rfl⟩ := inB_t e
    exact br_f (nI_pos (by omega)) (br_t (nI_le (by omega) (by omega)) (h1 k (by omega) rfl))
  | false =>
    refine ⟨fun _ => h0 e, fun hp => ⟨fun hl => ?_, fun _ => h0 e⟩⟩
    exfalso
    obtain ⟨j, hj, rfl⟩ := nI_of hp
    exact inB_f e (show j < tl + 1 by have := (nI_leI hj (by omega)).mp hl; omega) (by omega) rfl
end Ask9
