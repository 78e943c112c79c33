/-! the class: words that are no names -/
def wdF (name : Int64) : List Int32 → Int32 → Int64 → Int32
  | [], _, _ => -1
  | b :: bs, w, c => if b = 32 then (if c = name then w else wdF name bs (w + 1) 0) else wdF name bs w (c * 32 + b.toInt64 - 97 + 1)
def wdS : List Int32 → Int32 → Int64 → List (Int64 × Int32)
  | [], _, _ => []
  | b :: bs, w, c => if b = 32 then (c, w) :: wdS bs (w + 1) 0 else wdS bs w (c * 32 + b.toInt64 - 97 + 1)
def wdL (name : Int64) : List (Int64 × Int32) → Int32
  | [] => -1
  | p :: ps => if p.1 = name then p.2 else wdL name ps
theorem wd_eq (name : Int64) : ∀ (bs : List Int32) (w : Int32) (c : Int64), wdF name bs w c = wdL name (wdS bs w c) := by
  intro bs
  induction bs with
  | nil => intro w c; rfl
  | cons b bs ih =>
    intro w c
    simp only [wdF, wdS]
    by_cases q : b = 32
    · rw [if_pos q, if_pos q]
      simp only [wdL]
      rw [ih]
    · rw [if_neg q, if_neg q, ih]
def wlP (k : Nat) : Int64 × Int32 := (lN (vB 32 (wl k) 0), nI k)
theorem wd_tab : wdS (sByt.getD 0 []) 0 0 = [wlP 0, wlP 1, wlP 2, wlP 3, wlP 4, wlP 5, wlP 6, wlP 7, wlP 8, wlP 9, wlP 10, wlP 11, wlP 12, wlP 13, wlP 14, wlP 15, wlP 16, wlP 17, wlP 18, wlP 19, wlP 20, wlP 21] := by decide +kernel
def wlT : Nat → Nat → List (Int64 × Int32)
  | 0, _ => []
  | f + 1, k => wlP k :: wlT f (k + 1)
theorem okW_lt32 {w : List Nat} (h : okW w) : vB 32 w 0 < 2 ^ 63 := by
  have h1 := vB_lt (b := 32) w 0 (fun x hx => by have := h.2.2 x hx; omega)
  have h2 : (32 : Nat) ^ w.length ≤ 32 ^ 7 := Nat.pow_le_pow_right (by decide) h.2.1
  have h3 : (32 : Nat) ^ 7 < 2 ^ 62 := by decide
  omega
theorem okW_eq32 {a b : List Nat} (ha : okW a) (hb : okW b) : lN (vB 32 a 0) = lN (vB 32 b 0) ↔ a = b := by
  rw [pk_lEQ (okW_lt32 ha) (okW_lt32 hb)]
  constructor
  · exact vB_inj a.length a b rfl (fun x hx => by have := ha.2.2 x hx; omega) (fun x hx => by have := hb.2.2 x hx; omega)
  · intro e; rw [e]
theorem wdL_fnd {w : List Nat} (hw : okW w) : ∀ (f k : Nat), k + f ≤ 22 → wdL (lN (vB 32 w 0)) (wlT f k) = oWh (fndN wl w f k) := by
  intro f
  induction f with
  | zero => intro k _; rfl
  | succ f ih =>
    intro k hk
    simp only [wlT, wdL, fndN]
    by_cases q : wl k = w
    · rw [if_pos q, if_pos (by show lN (vB 32 (wl k) 0) = _; rw [q])]
      rfl
    · rw [if_neg q, if_neg (show ¬ (wlP k).1 = lN (vB 32 w 0) from fun e => q ((okW_eq32 (wl_ok k (by omega)) hw).mp e)), ih (k + 1) (by omega)]
theorem wd_is {w : List Nat} (hw : okW w) : wdF (lN (vB 32 w 0)) (sByt.getD 0 []) 0 0 = oWh (fndN wl w 22 0) := by
  rw [wd_eq, wd_tab]
  exact wdL_fnd hw 22 0 (by decide)
section Word6
variable {G : gG} {d : Nat} {I : sI} {J : sJ} {P : sP} {K : sK} {n : Nat} {F : Int32 → sI → sJ → Prop}
theorem wd_drop {i : Nat} (h : i < 110) : (sByt.getD 0 []).drop i = sby 0 i :: (sByt.getD 0 []).drop (i + 1) := by
  have hl : (sByt.getD 0 []).length = 110 := by decide +kernel
  rw [List.drop_eq_getElem_cons (by rw [hl]; exact h)]
  congr 1
  unfold sby
  generalize hz : sByt.getD 0 [] = z at hl ⊢
  rw [List.getD_eq_getElem?_getD, List.getElem?_eq_getElem (by rw [hl]; exact h)]
  rfl
theorem wd_loop (name : Int64) : ∀ (k i : Nat), i + k = 110 → ∀ (w : Int32) (c : Int64), F (wdF name ((sByt.getD 0 []).drop i) w c) I J → Ok G (d + 4) mX6_wordOf 7 [some (.long name), none, some (.int w), some (.long c), none, some (.int (nI i)), none] [] I J P K n (kI P K n F) := by
  intro k
  induction k with
  | zero =>
    intro i hi w c h
    have e : i = 110 := by omega
    subst e
    refine ok_iload (k := 5) dX6_wordOf_7 rfl ?_
    refine ok_ldcS 0 (by decide) rfl dX6_wordOf_9 ?_
    refine ok_callTI (M' := mJlen) (np := 0) (i := 0) (As := []) (rest := [.int (nI 110)]) (by decide) dX6_wordOf_11 miJlen (tbm 454 (by decide +kernel) rfl) (tbm 455 (by decide +kernel) rfl) (tbm 456 (by decide +kernel) rfl) rfl rfl (Nat.le_of_ble_eq_true rfl) (Nat.le_of_ble_eq_true rfl) (S_len (by decide) ?_)
    refine ok_icmp_ge 71 dX6_wordOf_14 (by decide) (br_t (nI_le (a := 110) (b := 110) (by decide) (by decide)) ?_)
    refine ok_iconstV (-1) dX6_wordOf_71 rfl ?_
    exact ok_ret (ty := .int) dX6_wordOf_72 rfl rfl ⟨⟨rfl, rfl, rfl⟩, -1, rfl, h⟩
  | succ k ih =>
    intro i hi w c h
    rw [wd_drop (by omega)] at h
    simp only [wdF] at h
    refine ok_iload (k := 5) dX6_wordOf_7 rfl ?_
    refine ok_ldcS 0 (by decide) rfl dX6_wordOf_9 ?_
    refine ok_callTI (M' := mJlen) (np := 0) (i := 0) (As := []) (rest := [.int (nI i)]) (by decide) dX6_wordOf_11 miJlen (tbm 454 (by decide +kernel) rfl) (tbm 455 (by decide +kernel) rfl) (tbm 456 (by decide +kernel) rfl) rfl rfl (Nat.le_of_ble_eq_true rfl) (Nat.le_of_ble_eq_true rfl) (S_len (by decide) ?_)
    refine ok_icmp_ge 71 dX6_wordOf_14 (by decide) (br_f (nI_ge (b := 110) (by omega) (by decide)) ?_)
    refine ok_ldcS 0 (by decide) rfl dX6_wordOf_17 ?_
    refine ok_iload (k := 5) dX6_wordOf_19 rfl ?_
    refine ok_callTI (M' := mJchr) (np := 1) (i := 0) (As := [.int (nI i)]) (rest := []) (by decide) dX6_wordOf_21 miJchr (tbm 464 (by decide +kernel) rfl) (tbm 465 (by decide +kernel) rfl) (tbm 466 (by decide +kernel) rfl) rfl rfl (Nat.le_of_ble_eq_true rfl) (Nat.le_of_ble_eq_true rfl) (S_chr (by decide) (nI_pos (by omega)) (nI_lt (b := 110) (by omega) (by decide)) (by rw [nI_ck (by omega)]; show i < 110; omega) ?_)
    rw [nI_ck (by omega)]
    refine ok_istore (k := 6) dX6_wordOf_24 (by decide) ?_
    refine ok_iload (k := 6) dX6_wordOf_26 rfl ?_
    refine ok_bipushV 32 dX6_wordOf_28 (by decide) ?_
    have bk : ∀ (w' : Int32) (c' : Int64) (x : Option Value), F (wdF name ((sByt.getD 0 []).drop (i + 1)) w' c') I J → Ok G (d + 4) mX6_wordOf 65 [some (.long name), none, some (.int w'), some (.long c'), none, some (.int (nI i)), x] [] I J P K n (kI P K n F) := by
      intro w' c' x h'
      refine ok_iincV (k := 5) (nI (i + 1)) dX6_wordOf_65 (by decide) rfl (nI_1 i) ?_
      refine ok_goto 7 dX6_wordOf_68 (by decide) ?_
      refine ok_less (L' := [some (.long name), none, some (.int w'), some (.long c'), none, some (.int (nI (i + 1))), none]) rfl ?_ (ih (i + 1) (by omega) w' c' h')
      intro j v hv
      match j, hv with
      | 0, hv => exact hv
      | 1, hv => exact hv
      | 2, hv => exact hv
      | 3, hv => exact hv
      | 4, hv => exact hv
      | 5, hv => exact hv
      | 6, hv => cases hv
      | j + 7, hv => cases hv
    refine ok_icmp_eq 52 dX6_wordOf_30 (by decide) ⟨fun e => ?_, fun e => ?_⟩
    · rw [if_pos e] at h
      refine ok_lload_n (k := 3) dX6_wordOf_52 rfl ?_
      refine ok_lload_n (k := 0) dX6_wordOf_53 rfl ?_
      refine ok_lcmp dX6_wordOf_54 ?_
      refine ok_if_ne 60 dX6_wordOf_55 (by decide) ⟨fun e2 => ?_, fun e2 => ?_⟩
      · rw [if_pos ((lg_cmp_eq _ _).mp e2)] at h
        refine ok_iload_n (k := 2) dX6_wordOf_58 rfl ?_
        exact ok_ret (ty := .int) dX6_wordOf_59 rfl rfl ⟨⟨rfl, rfl, rfl⟩, w, rfl, h⟩
      · rw [if_neg (fun q => e2 ((lg_cmp_eq _ _).mpr q))] at h
        refine ok_iincV (k := 2) (w + 1) dX6_wordOf_60 (by decide) rfl rfl ?_
        refine ok_lconstV 0 dX6_wordOf_63 rfl ?_
        refine ok_lstore_n (k := 3) dX6_wordOf_64 (by decide) ?_
        exact bk _ _ _ h
    · rw [if_neg e] at h
      refine ok_lload_n (k := 3) dX6_wordOf_33 rfl ?_
      refine ok_ldc2_w (v := 32) dX6_wordOf_34 (tbm 444 (by decide +kernel) rfl) ?_
      refine ok_lmul dX6_wordOf_37 ?_
      refine ok_iload (k := 6) dX6_wordOf_38 rfl ?_
      refine ok_i2l dX6_wordOf_40 ?_
      refine ok_ladd dX6_wordOf_41 ?_
      refine ok_ldc2_w (v := 97) dX6_wordOf_42 (tbm 445 (by decide +kernel) rfl) ?_
      refine ok_lsub dX6_wordOf_45 ?_
      refine ok_lconstV 1 dX6_wordOf_46 rfl ?_
      refine ok_ladd dX6_wordOf_47 ?_
      refine ok_lstore_n (k := 3) dX6_wordOf_48 (by decide) ?_
      refine ok_goto 65 dX6_wordOf_49 (by decide) ?_
      exact bk _ _ _ h
theorem C_wordOf {w : List Nat} (hw : okW w) (h : F (oWh (fndN wl w 22 0)) I J) : ckI G (d + 4) mX6_wordOf [.long (lN (vB 32 w 0))] I J P K n F := by
  refine ok_iconstV 0 dX6_wordOf_0 rfl ?_
  refine ok_istore_n (k := 2) dX6_wordOf_1 (by decide) ?_
  refine ok_lconstV 0 dX6_wordOf_2 rfl ?_
  refine ok_lstore_n (k := 3) dX6_wordOf_3 (by decide) ?_
  refine ok_iconstV 0 dX6_wordOf_4 rfl ?_
  refine ok_istore (k := 5) dX6_wordOf_5 (by decide) ?_
  refine wd_loop _ 110 0 rfl 0 0 ?_
  rw [List.drop_zero, wd_is hw]
  exact h
end Word6
