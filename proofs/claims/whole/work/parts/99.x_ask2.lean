/-! the class: bottle, count, scale, where -/
theorem ng {b : Bool} (e : (!b) = false) : b = true := by cases b <;> first | rfl | cases e
theorem ng' {b : Bool} (e : (!b) = true) : b = false := by cases b <;> first | rfl | cases e
section Ask7
variable {G : gG} {d : Nat} {I : sI} {J : sJ} {P : sP} {K : sK} {n : Nat} {F : Int32 → sI → sJ → Prop} {hd so : Nat → Nat} {c l : Nat}
theorem C_bottle (x : Int32) (hX : shX P K) (h8 : P 0 8 = some c) (S : sC P K c l) (C : rC I c hd so) (h : F (qBottle so x) I J) : ckI G (d + 1) mX11_bottle [.ref 0, .int x] I J P K n F := by
  unfold qBottle at h
  refine bX11_bottle_0 hX _ (C_noVint x (b01n (fun e => ?_) (fun e => ?_)))
  · rw [ng e] at h
    obtain ⟨k, hk, rfl⟩ := inB_t (ng e)
    rw [if_pos rfl, cl_nI (by omega)] at h
    rw [nI_ck (by omega)]
    refine ⟨c, h8, S.1, nI_inN hk (by decide), ?_⟩
    rw [C.2.2.2.2.2 k hk]
    exact h
  · rw [ng' e] at h
    exact h
theorem C_count (x : Int32) {tl : Nat} (hX : shX P K) (h8 : P 0 8 = some c) (S : sC P K c l) (Y : rL I l hd) (e1 : I 0 1 = nI tl) (h : F (qCount hd tl x) I J) : ckI G d mX11_count [.ref 0, .int x] I J P K n F := by
  unfold qCount at h
  refine bX11_count_0 hX _ ⟨c, h8, S.1, l, S.2.1, S.2.2.1, ?_⟩
  rw [Y.1 0 (by decide), Y.1 1 (by decide), Y.1 2 (by decide), Y.1 3 (by decide), Y.1 4 (by decide), e1]
  refine ⟨fun z => ?_, fun z => ?_, fun z => ?_, fun z => ?_, fun z => ?_, fun z => ?_, fun z0 z1 z2 z3 z4 z5 => ?_⟩
  · subst z; exact h
  · subst z; exact h
  · subst z; exact h
  · subst z; exact h
  · subst z; exact h
  · subst z; exact h
  · rw [if_neg z0, if_neg z1, if_neg z2, if_neg z3, if_neg z4, if_neg z5] at h; exact h
theorem C_scale (x y : Int32) (hX : shX P K) (h8 : P 0 8 = some c) (S : sC P K c l) (Y : rL I l hd) (C : rC I c hd so) (w : wf hd so) (h : F (qScale hd so x y) I J) : ckI G (d + 2) mX11_scale [.ref 0, .int x, .int y] I J P K n F := by
  have w1 := w.1
  unfold qScale at h
  refine bX11_scale_0 hX _ _ (C_noScale x hX h8 S Y w (b01n (fun e => ?_) (fun e => ?_)))
  · rw [ng e] at h
    obtain ⟨k, hk, rfl⟩ := inB_t (ng e)
    rw [if_pos rfl, cl_nI (by omega)] at h
    rw [nI_ck (by omega)]
    have vk : vp_in (nI k) 5 := nI_inN (by omega) (by decide)
    refine ⟨fun z => ⟨c, h8, S.1, l, S.2.1, S.2.2.1, vk, ?_⟩, fun z => ⟨c, h8, S.1, l, S.2.1, S.2.2.1, vk, ?_⟩, fun z => ⟨c, h8, S.1, C_haveOfScale S Y C w hk ?_⟩, fun z => ⟨c, h8, S.1, C_lackOfScale S Y C w hk ?_⟩, fun z0 z1 z2 z3 => ?_⟩
    · subst z; rw [(Y.2.1 k hk).1]; exact h
    · subst z; rw [(Y.2.1 k hk).2.1]; exact h
    · subst z; exact h
    · subst z; exact h
    · rw [if_neg z0, if_neg z1, if_neg z2, if_neg z3] at h; exact h
  · rw [ng' e] at h
    exact h
theorem C_where (x : Int32) (hX : shX P K) (h8 : P 0 8 = some c) (S : sC P K c l) (Y : rL I l hd) (C : rC I c hd so) (w : wf hd so) (h : F (qWhere hd so x) I J) : ckI G (d + 1) mX11_where [.ref 0, .int x] I J P K n F := by
  have hcs := wf_casks w
  unfold qWhere at h
  refine bX11_where_0 _ (C_noVint x (b01n (fun e => ?_) (fun e => ?_)))
  · rw [ng e] at h
    obtain ⟨v, hv, rfl⟩ := inB_t (ng e)
    rw [if_pos rfl, cl_nI (by omega)] at h
    refine loopN (hd 1) (fun j => Ok G (d + 1) mX11_where 13 [some (.ref 0), some (.int (nI v)), some (.int (bs (fun k => decide (0 < wn so k v)) j)), some (.int (nI j))] [] I J P K n (kI P K n F)) ?_ ?_ 0 (by omega)
    · refine bX11_where_13 hX _ _ _ ⟨c, h8, S.1, l, S.2.1, S.2.2.1, ?_⟩
      rw [Y.1 1 (by decide)]
      exact br_t (nI_le (Nat.le_refl _) (by omega)) h
    · intro j hj ih
      refine bX11_where_13 hX _ _ _ ⟨c, h8, S.1, l, S.2.1, S.2.2.1, ?_⟩
      rw [Y.1 1 (by decide)]
      refine br_f (nI_ge hj (by omega)) ⟨c, h8, S.1, nI_inN (by omega) (by decide), nI_inN hv (by decide), ?_⟩
      rw [nI_ck (show j < 2147483648 by omega), nI_ck (show v < 2147483648 by omega), C.2.2.2.1 j v hj hv, nI_1]
      have hw : wn so j v ≤ ltr so j := sm_mem (f := wn so j) hv
      have hl := w.2.2.2.2.2.2.2.1 j hj
      have h10 : hol hd j ≤ 400 := (w.2.1 _ (sof_at w hj).1).2.2.2
      by_cases q : 0 < wn so j v
      · rw [bs_t (p := fun k => decide (0 < wn so k v)) (decide_eq_true q)] at ih
        exact br_f (nI_nle q (by omega)) ih
      · rw [bs_f (p := fun k => decide (0 < wn so k v)) (decide_eq_false q)] at ih
        exact br_t (by rw [show wn so j v = 0 by omega]; decide) ih
  · rw [ng' e] at h
    exact h
end Ask7
