/-! the class: cask, now, older -/
section Ask8
variable {G : gG} {d : Nat} {I : sI} {J : sJ} {P : sP} {K : sK} {n : Nat} {F : Int32 → sI → sJ → Prop} {hd so : Nat → Nat} {c l : Nat}
theorem C_cask (x y : Int32) (hX : shX P K) (h8 : P 0 8 = some c) (S : sC P K c l) (Y : rL I l hd) (C : rC I c hd so) (w : wf hd so) (h : F (qCask hd so x y) I J) : ckI G (d + 2) mX11_cask [.ref 0, .int x, .int y] I J P K n F := by
  have hcs := wf_casks w
  unfold qCask at h
  refine bX11_cask_0 hX _ _ (C_noCask x hX h8 S Y w (b01n (fun e => ?_) (fun e => ?_)))
  · rw [ng e] at h
    obtain ⟨k, hk, rfl⟩ := inB_t (ng e)
    rw [if_pos rfl, cl_nI (by omega)] at h
    rw [nI_ck (by omega)]
    have vk : vp_in (nI k) 20 := nI_inN (by omega) (by decide)
    refine ⟨c, h8, S.1, l, S.2.1, S.2.2.1, fun z => ⟨vk, ?_⟩, fun z => C_numberOf S.2.2.1 Y w hk ?_, fun z => ⟨c, h8, S.1, vk, ?_⟩, fun z => ⟨c, h8, S.1, C_lackOf S Y C w hk ?_⟩, fun z => ⟨c, h8, S.1, vk, ?_⟩, fun z => ⟨c, h8, S.1, C_oldest S C w hk ?_⟩, fun z => ⟨c, h8, S.1, C_youngest S C w hk ?_⟩, fun z0 z1 z2 z3 z4 z5 z6 => ?_⟩
    · subst z; rw [Y.2.2 k hk]; exact h
    · subst z; exact h
    · subst z; rw [(C.2.2.2.2.1 k hk).1]; exact h
    · subst z; exact h
    · subst z; rw [(C.2.2.2.2.1 k hk).2]; exact h
    · subst z; exact h
    · subst z; exact h
    · rw [if_neg z0, if_neg z1, if_neg z2, if_neg z3, if_neg z4, if_neg z5, if_neg z6] at h; exact h
  · rw [ng' e] at h
    exact h
theorem C_now (x : Int32) (hX : shX P K) (h8 : P 0 8 = some c) (S : sC P K c l) (Y : rL I l hd) (C : rC I c hd so) (w : wf hd so) (h : F (qNow hd so x) I J) : ckI G (d + 3) mX11_now [.ref 0, .int x] I J P K n F := by
  unfold qNow at h
  refine bX11_now_0 hX _ ⟨fun z => ⟨c, h8, S.1, ?_⟩, fun z => ⟨c, h8, S.1, C_haveInAll S Y C w ?_⟩, fun z => ⟨c, h8, S.1, C_fullCasks S Y C w ?_⟩, fun z => ⟨c, h8, S.1, C_emptyCasks S Y C w ?_⟩, fun z => ⟨c, h8, S.1, ?_⟩, fun z => ⟨c, h8, S.1, ?_⟩, fun z => ⟨c, h8, S.1, C_inBottle S.1 C ?_⟩, fun z0 z1 z2 z3 z4 z5 z6 => ?_⟩
  · subst z; rw [C.1]; exact h
  · subst z; exact h
  · subst z; exact h
  · subst z; exact h
  · subst z; rw [C.2.1]; exact h
  · subst z; rw [C.2.2.1]; exact h
  · subst z; exact h
  · rw [if_neg z0, if_neg z1, if_neg z2, if_neg z3, if_neg z4, if_neg z5, if_neg z6] at h; exact h
theorem C_older (x : Int32) (hX : shX P K) (h8 : P 0 8 = some c) (S : sC P K c l) (Y : rL I l hd) (C : rC I c hd so) (w : wf hd so) (h : F (qOlder hd so x) I J) : ckI G (d + 1) mX11_older [.ref 0, .int x] I J P K n F := by
  have hcs := wf_casks w
  unfold qOlder at h
  refine bX11_older_0 _ (C_noVint x (b01n (fun e => ?_) (fun e => ?_)))
  · rw [ng e] at h
    obtain ⟨v, hv, rfl⟩ := inB_t (ng e)
    rw [if_pos rfl, cl_nI (by omega)] at h
    refine loopN (hd 1) (fun j => Ok G (d + 1) mX11_older 13 [some (.ref 0), some (.int (nI v)), some (.int (nI (sm (odl so v) j))), some (.int (nI j))] [] I J P K n (kI P K n F)) ?_ ?_ 0 (by omega)
    · refine bX11_older_13 hX _ _ _ ⟨c, h8, S.1, l, S.2.1, S.2.2.1, ?_⟩
      rw [Y.1 1 (by decide)]
      exact br_t (nI_le (Nat.le_refl _) (by omega)) h
    · intro j hj ih
      refine bX11_older_13 hX _ _ _ ⟨c, h8, S.1, l, S.2.1, S.2.2.1, ?_⟩
      rw [Y.1 1 (by decide)]
      refine br_f (nI_ge hj (by omega)) ⟨c, h8, S.1, C_olderOf S C w hj hv ?_⟩
      rw [i_add, nI_1]
      exact ih
  · rw [ng' e] at h
    exact h
end Ask8
