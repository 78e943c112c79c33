/-! the class: guards, tag, byteAt -/
theorem rng6 {x : Int32} {N : Nat} {A B : Prop} (hN : N ≤ 1000) (a : inB x N = true → A) (b : inB x N = false → B) : (x < 0 → B) ∧ (¬ x < 0 → ((x < nI N → A) ∧ (¬ x < nI N → B))) := by
  cases e : inB x N with
  | true =>
    obtain ⟨k, hk, rfl⟩ := inB_t e
    exact br_f (nI_pos (by omega)) (br_t (nI_lt hk (by omega)) (a e))
  | false =>
    refine ⟨fun _ => b e, fun h0 => ⟨fun h1 => ?_, fun _ => b e⟩⟩
    exfalso
    obtain ⟨j, hj, rfl⟩ := nI_of h0
    exact inB_f e ((nI_ltI hj (by omega)).mp h1) (by omega) rfl
section Ask6
variable {G : gG} {d : Nat} {I : sI} {J : sJ} {P : sP} {K : sK} {n : Nat} {F : Int32 → sI → sJ → Prop} {hd so : Nat → Nat} {nm : Nat → List Nat} {c l : Nat}
theorem C_noCask (x : Int32) (hX : shX P K) (h8 : P 0 8 = some c) (S : sC P K c l) (Y : rL I l hd) (w : wf hd so) (h : F (b01 (!inB x (hd 1))) I J) : ckI G d mX11_noCask [.ref 0, .int x] I J P K n F := by
  have hcs := wf_casks w
  have r := rng6 (x := x) (N := hd 1) (A := F 0 I J) (B := F 1 I J) (by omega) (fun e => by rw [e] at h; exact h) (fun e => by rw [e] at h; exact h)
  refine bX11_noCask_0 hX _ ⟨r.1, fun z => ⟨c, h8, S.1, l, S.2.1, S.2.2.1, ?_⟩⟩
  rw [Y.1 1 (by decide)]
  exact r.2 z
theorem C_noScale (x : Int32) (hX : shX P K) (h8 : P 0 8 = some c) (S : sC P K c l) (Y : rL I l hd) (w : wf hd so) (h : F (b01 (!inB x (hd 0))) I J) : ckI G d mX11_noScale [.ref 0, .int x] I J P K n F := by
  have hcs := w.1
  have r := rng6 (x := x) (N := hd 0) (A := F 0 I J) (B := F 1 I J) (by omega) (fun e => by rw [e] at h; exact h) (fun e => by rw [e] at h; exact h)
  refine bX11_noScale_0 hX _ ⟨r.1, fun z => ⟨c, h8, S.1, l, S.2.1, S.2.2.1, ?_⟩⟩
  rw [Y.1 0 (by decide)]
  exact r.2 z
theorem C_noVint (x : Int32) (h : F (b01 (!inB x 40)) I J) : ckI G d mX11_noVintage [.int x] I J P K n F :=
  bX11_noVintage_0 _ (rng6 (x := x) (N := 40) (A := F 0 I J) (B := F 1 I J) (by omega) (fun e => by rw [e] at h; exact h) (fun e => by rw [e] at h; exact h))
theorem C_tag (x : Int32) {tx : List Nat} (hX : shX P K) (h8 : P 0 8 = some c) (S : sC P K c l) (Y : rL I l hd) (N : rLN J l hd nm) (C : rC I c hd so) (w : wf hd so) (T : rTg I tx) (h : ∀ I', rTg I' (if inB x (hd 1) then tgL nm hd so (cl x) else tx) → frTg I I' → F (if inB x (hd 1) then nI (tgL nm hd so (cl x)).length else -1) I' J) : ckI G (d + 6) mX11_tag [.ref 0, .int x] I J P K n F := by
  have hcs := wf_casks w
  refine bX11_tag_0 hX _ (C_noCask x hX h8 S Y w (b01n (fun e => ?_) (fun e => ?_)))
  · have e : inB x (hd 1) = true := by cases q : inB x (hd 1) with | true => rfl | false => rw [q] at e; cases e
    rw [e] at h
    obtain ⟨k, hk, rfl⟩ := inB_t e
    rw [cl_nI (by omega)] at h
    refine ⟨c, h8, S.1, C_write hX S Y N C w hk (fun I' T' f => ?_)⟩
    rw [T'.1]
    exact h I' T' f
  · have e : inB x (hd 1) = false := by cases q : inB x (hd 1) with | false => rfl | true => rw [q] at e; cases e
    rw [e] at h
    exact h I T (frTg_rf I)
theorem C_byteAt (x : Int32) {tx : List Nat} (hX : shX P K) (T : rTg I tx) (ht : tx.length ≤ 40) (h : F (if inB x tx.length then nI (tx.getD (cl x) 0) else -1) I J) : ckI G d mX11_byteAt [.ref 0, .int x] I J P K n F := by
  refine bX11_byteAt_0 hX _ ?_
  rw [T.1]
  refine rng6 (by omega) (fun e => ?_) (fun e => ?_)
  · rw [e] at h
    obtain ⟨k, hk, rfl⟩ := inB_t e
    rw [if_pos rfl, cl_nI (by omega)] at h
    rw [nI_ck (by omega), T.2 k hk]
    exact ⟨nI_inN (by omega) (by decide), h⟩
  · rw [e] at h
    exact h
end Ask6
