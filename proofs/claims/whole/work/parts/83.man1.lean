/-! the class: wine goes out of a cask, comes into one; draw, tip, angels, years -/
def dT (c a : Nat) : Prop := (c ≤ a ∧ a ≤ c + 24) ∨ (5 ≤ a ∧ a ≤ 9)
def frC (c : Nat) (I I' : sI) : Prop := ∀ a k, ¬ dT c a → I' a k = I a k
theorem frC_rf (c : Nat) (I : sI) : frC c I I := fun _ _ _ => rfl
theorem frC_tr {c : Nat} {I I' I2 : sI} (h : frC c I I') (h2 : frC c I' I2) : frC c I I2 := fun a k q => (h2 a k q).trans (h a k q)
theorem rL_of {I I' : sI} {l : Nat} {hd : Nat → Nat} (L : rL I l hd) (h : ∀ a k, l ≤ a → a ≤ l + 5 → I' a k = I a k) : rL I' l hd := ⟨fun k hk => (h _ _ (by omega) (by omega)).trans (L.1 k hk), fun s hs => ⟨(h _ _ (by omega) (by omega)).trans (L.2.1 s hs).1, (h _ _ (by omega) (by omega)).trans (L.2.1 s hs).2.1, (h _ _ (by omega) (by omega)).trans (L.2.1 s hs).2.2⟩, fun k hk => (h _ _ (by omega) (by omega)).trans (L.2.2 k hk)⟩
theorem rL_fr {P : sP} {K : sK} {I I' : sI} {c l : Nat} {hd : Nat → Nat} (S : sC P K c l) (L : rL I l hd) (f : frC c I I') : rL I' l hd := rL_of L (fun a k h1 h2 => f a k (by have := S.2.2.2; unfold dT; omega))
theorem tak_0 (so : Nat → Nat) (k : Nat) : tak so k 0 = so := by
  funext j
  unfold tak rg
  split
  · have e : shr (wn so k) 40 0 = fun _ => 0 := by unfold shr; rw [if_pos rfl]
    rw [e]
    show wn so k (j - (63 + 40 * k)) - 0 = so j
    unfold wn
    rw [Nat.sub_zero]
    congr 1; omega
  · rfl
section Man1
variable {G : gG} {d : Nat} {I : sI} {J : sJ} {P : sP} {K : sK} {n : Nat} {F : Int32 → sI → sJ → Prop} {FV : sI → sJ → Prop} {hd so : Nat → Nat} {c l : Nat}
theorem C_takeOut {k x : Nat} (hX : shX P K) (S : sC P K c l) (C : rC I c hd so) (w : wf hd so) (hk : k < hd 1) (hx : x ≤ ltr so k) (h : ∀ I', rC I' c hd (tak so k x) → (∀ v, v < 40 → I' 6 v = nI (shr (wn so k) 40 x v)) → (∀ a j, a ≠ c + 2 + k → a ≠ c + 22 → a ≠ 6 → a ≠ 5 → I' a j = I a j) → FV I' J) : ckV G (d + 2) mX2_takeOut [.ref 4, .ref c, .int (nI k), .int (nI x)] I J P K n FV := by
  have hc := wf_casks w
  have hl := wf_ltr w hk
  have c34 := S.2.2.2.1
  have sk := shr_ok (own := wn so k) (m := 40) hx
  refine bX2_takeOut_0 hX _ _ _ S.1 ⟨nI_inN (by omega) (by decide), ?_⟩
  rw [nI_ck (show k < 2147483648 by omega)]
  have kr := ((shC_R S.1) k (by omega)).2
  refine C_share (m := 40) (own := wn so k) hX kr (shX_K6 hX) (by decide) (by decide) (by decide) (by decide) (by decide) (by omega) (by omega) (by decide) (fun v hv => C.2.2.2.1 k v hk hv) hx (by show ltr so k ≤ _; omega) (fun I1 g1 g2 => ?_)
  have key := loopN 40 (fun j => ∀ I', (∀ v, v < j → I' (c + 2 + k) v = nI (wn so k v - shr (wn so k) 40 x v)) → (∀ v, v < 40 → j ≤ v → I' (c + 2 + k) v = nI (wn so k v)) → (∀ a j, a ≠ c + 2 + k → I' a j = I1 a j) → Ok G (d + 2) mX2_takeOut 24 [some (.ref 4), some (.ref c), some (.int (nI k)), some (.int (nI x)), some (.ref (c + 2 + k)), some (.int (nI j))] [] I' J P K n (kV P K n FV)) ?_ ?_ 0 (by omega)
  · exact key I1 (fun v hv => by omega) (fun v hv _ => by rw [g2 _ _ (by omega) (by omega)]; exact C.2.2.2.1 k v hk hv) (fun _ _ _ => rfl)
  · intro I' p1 p2 p3
    refine bX2_takeOut_24 hX _ _ _ _ _ S.1 (br_t (nI_le (b := 40) (Nat.le_refl _) (by decide)) ⟨nI_inN (by omega) (by decide), nI_inN (by omega) (by decide), ?_⟩)
    have o : ∀ a j, a ≠ c + 2 + k → a ≠ 6 → a ≠ 5 → I' a j = I a j := fun a j a1 a2 a3 => (p3 a j a1).trans (g2 a j a2 a3)
    rw [nI_ck (by omega), o (c + 22) k (by omega) (by omega) (by omega), (C.2.2.2.2.1 k hk).1]
    have lt := ltr_tak (so := so) (k := k) (x := x) hx
    refine h _ ⟨?_, ?_, ?_, fun j v hj hv => ?_, fun j hj => ⟨?_, ?_⟩, fun v hv => ?_⟩ (fun v hv => ?_) (fun a j a1 a2 a3 a4 => ?_)
    · rw [u2_a _ _ _ _ (by omega), o _ _ (by omega) (by omega) (by omega), tak_lo (by decide)]; exact C.1
    · rw [u2_a _ _ _ _ (by omega), o _ _ (by omega) (by omega) (by omega), tak_lo (by decide)]; exact C.2.1
    · rw [u2_a _ _ _ _ (by omega), o _ _ (by omega) (by omega) (by omega), tak_lo (by decide)]; exact C.2.2.1
    · rw [u2_a _ _ _ _ (by omega)]
      by_cases e : j = k
      · subst e; rw [p1 v hv]; unfold tak; rw [wn_rg_s _ _ _ hv]
      · rw [o _ _ (by omega) (by omega) (by omega), C.2.2.2.1 j v hj hv]; unfold tak; rw [wn_rg_n _ _ hv e]
    · by_cases e : j = k
      · subst e; rw [u2_s, i_sub hx]; congr 1; omega
      · rw [u2_k _ _ _ _ e, o _ _ (by omega) (by omega) (by omega), (C.2.2.2.2.1 j hj).1, ltr_tak_n e]
    · rw [u2_a _ _ _ _ (by omega), o _ _ (by omega) (by omega) (by omega), tak_lo (by omega)]; exact (C.2.2.2.2.1 j hj).2
    · rw [u2_a _ _ _ _ (by omega), o _ _ (by omega) (by omega) (by omega)]; unfold btl; rw [tak_lo (by omega)]; exact C.2.2.2.2.2 v hv
    · rw [u2_a _ _ _ _ (by omega), p3 6 v (by omega)]; exact g1 v hv
    · rw [u2_a _ _ _ _ a2]; exact o a j a1 a3 a4
  · intro j hj ih I' p1 p2 p3
    refine bX2_takeOut_24 hX _ _ _ _ _ S.1 (br_f (nI_ge (b := 40) hj (by decide)) ?_)
    rw [kr]
    refine ⟨rfl, nI_inN hj (by decide), nI_inN hj (by decide), rfl, nI_inN hj (by decide), ?_⟩
    rw [nI_ck (by omega), p2 j hj (Nat.le_refl _), p3 6 j (by omega), g1 j hj, i_sub (sk.1 j hj), nI_1]
    refine ih _ (fun v hv => ?_) (fun v hv hv2 => ?_) (fun a i ha => ?_)
    · by_cases e : v = j
      · subst e; rw [u2_s]
      · rw [u2_k _ _ _ _ e]; exact p1 v (by omega)
    · rw [u2_k _ _ _ _ (by omega)]; exact p2 v hv (by omega)
    · rw [u2_a _ _ _ _ ha]; exact p3 a i ha
theorem C_putIn {k x : Nat} {s : Nat → Nat} (hX : shX P K) (S : sC P K c l) (C : rC I c hd so) (w : wf hd so) (hk : k < hd 1) (hp : ∀ v, v < 40 → I 6 v = nI (s v)) (hx : x = sm s 40) (h : ∀ I', rC I' c hd (ptt so k s) → (∀ a j, a ≠ c + 2 + k → a ≠ c + 22 → I' a j = I a j) → FV I' J) : ckV G d mX2_putIn [.ref 4, .ref c, .int (nI k), .int (nI x)] I J P K n FV := by
  have hc := wf_casks w
  have c34 := S.2.2.2.1
  refine bX2_putIn_0 _ _ _ S.1 ⟨nI_inN (by omega) (by decide), ?_⟩
  rw [nI_ck (show k < 2147483648 by omega)]
  have kr := ((shC_R S.1) k (by omega)).2
  have key := loopN 40 (fun j => ∀ I', (∀ v, v < j → I' (c + 2 + k) v = nI (wn so k v + s v)) → (∀ v, v < 40 → j ≤ v → I' (c + 2 + k) v = nI (wn so k v)) → (∀ a j, a ≠ c + 2 + k → I' a j = I a j) → Ok G d mX2_putIn 11 [some (.ref 4), some (.ref c), some (.int (nI k)), some (.int (nI x)), some (.ref (c + 2 + k)), some (.int (nI j))] [] I' J P K n (kV P K n FV)) ?_ ?_ 0 (by omega)
  · exact key I (fun v hv => by omega) (fun v hv _ => C.2.2.2.1 k v hk hv) (fun _ _ _ => rfl)
  · intro I' p1 p2 o
    refine bX2_putIn_11 hX _ _ _ _ _ S.1 (br_t (nI_le (b := 40) (Nat.le_refl _) (by decide)) ⟨nI_inN (by omega) (by decide), nI_inN (by omega) (by decide), ?_⟩)
    rw [nI_ck (by omega), o (c + 22) k (by omega), (C.2.2.2.2.1 k hk).1, i_add]
    have lt := ltr_ptt (so := so) (k := k) (s := s)
    refine h _ ⟨?_, ?_, ?_, fun j v hj hv => ?_, fun j hj => ⟨?_, ?_⟩, fun v hv => ?_⟩ (fun a j a1 a2 => ?_)
    · rw [u2_a _ _ _ _ (by omega), o _ _ (by omega), ptt_lo (by decide)]; exact C.1
    · rw [u2_a _ _ _ _ (by omega), o _ _ (by omega), ptt_lo (by decide)]; exact C.2.1
    · rw [u2_a _ _ _ _ (by omega), o _ _ (by omega), ptt_lo (by decide)]; exact C.2.2.1
    · rw [u2_a _ _ _ _ (by omega)]
      by_cases e : j = k
      · subst e; rw [p1 v hv]; unfold ptt; rw [wn_rg_s _ _ _ hv]
      · rw [o _ _ (by omega), C.2.2.2.1 j v hj hv]; unfold ptt; rw [wn_rg_n _ _ hv e]
    · by_cases e : j = k
      · subst e; rw [u2_s, lt, hx]
      · rw [u2_k _ _ _ _ e, o _ _ (by omega), (C.2.2.2.2.1 j hj).1, ltr_ptt_n e]
    · rw [u2_a _ _ _ _ (by omega), o _ _ (by omega), ptt_lo (by omega)]; exact (C.2.2.2.2.1 j hj).2
    · rw [u2_a _ _ _ _ (by omega), o _ _ (by omega)]; unfold btl; rw [ptt_lo (by omega)]; exact C.2.2.2.2.2 v hv
    · rw [u2_a _ _ _ _ a2]; exact o a j a1
  · intro j hj ih I' p1 p2 p3
    refine bX2_putIn_11 hX _ _ _ _ _ S.1 (br_f (nI_ge (b := 40) hj (by decide)) ?_)
    rw [kr]
    refine ⟨rfl, nI_inN hj (by decide), nI_inN hj (by decide), rfl, nI_inN hj (by decide), ?_⟩
    rw [nI_ck (by omega), p2 j hj (Nat.le_refl _), p3 6 j (by omega), hp j hj, i_add, nI_1]
    refine ih _ (fun v hv => ?_) (fun v hv hv2 => ?_) (fun a i ha => ?_)
    · by_cases e : v = j
      · subst e; rw [u2_s]
      · rw [u2_k _ _ _ _ e]; exact p1 v (by omega)
    · rw [u2_k _ _ _ _ (by omega)]; exact p2 v hv (by omega)
    · rw [u2_a _ _ _ _ ha]; exact p3 a i ha
theorem C_tryDraw {k x : Nat} (hX : shX P K) (S : sC P K c l) (L : rL I l hd) (C : rC I c hd so) (w : wf hd so) (hk : k < hd 1) (hx : x ≤ 400) (h : ∀ I', rC I' c hd (dif hd so 0 k 0 x) → frC c I I' → F (nI (aWhy hd so 0 k 0 x)) I' J) : ckI G (d + 3) mX2_tryDraw [.ref 4, .ref c, .int (nI k), .int (nI x)] I J P K n F := by
  have hc := wf_casks w
  have hl := wf_ltr w hk
  have c34 := S.2.2.2.1
  have hdr := w.2.2.2.2.2.2.2.2.2.1 k (by omega)
  have hmo := w.2.2.2.2.1
  have hv : vp_in (nI k) 20 := nI_inN (by omega) (by decide)
  have ew : aWhy hd so 0 k 0 x = wDraw hd so k x := rfl
  unfold dif at h
  rw [ew] at h
  unfold wDraw at h
  refine bX2_tryDraw_0 hX _ _ _ S.1 ⟨hv, ?_⟩
  rw [nI_ck (by omega), (C.2.2.2.2.1 k hk).1, (C.2.2.2.2.1 k hk).2, i_le (by omega) (by omega), i_add]
  refine ⟨fun q => ⟨hv, l, S.2.1, S.2.2.1, ?_⟩, fun q => ?_⟩
  · rw [L.1 3 (by decide), i_le (by omega) (by omega)]
    refine ⟨fun q2 => ?_, fun q2 => ?_⟩
    · rw [if_neg (show ¬ ltr so k < x by omega), if_neg (show ¬ hd 3 < so (43 + k) + x by omega), if_pos rfl] at h
      refine C_takeOut hX S C w hk q (fun I1 C1 g1 g2 => ⟨by omega, hv, hv, ?_⟩)
      have ea : aLive hd so 0 k 0 x = aDraw so k x := rfl
      rw [ea] at h
      generalize hB : cpI I1 6 (c + 24) 0 0 40 = B
      have b0 : ∀ v, v < 40 → B (c + 24) v = nI (shr (wn so k) 40 x v) := fun v hv => by
        rw [← hB]; unfold cpI; rw [if_pos rfl, pk_cpy_in (Nat.zero_le _) (by omega), Nat.zero_add, Nat.sub_zero]; exact g1 v hv
      have b1 : ∀ a j, a ≠ c + 24 → B a j = I1 a j := fun a j ha => by rw [← hB]; unfold cpI; rw [if_neg ha]
      rw [b1 (c + 23) k (by omega), (C1.2.2.2.2.1 k hk).2, u2_a _ _ _ _ (show c ≠ c + 23 by omega), b1 c 2 (by omega), C1.2.1, tak_lo (by omega), tak_lo (by decide), i_add, i_add]
      have lo1 : ∀ j, j < 63 → j ≠ 43 + k → j ≠ 1 → ¬ (3 ≤ j ∧ j < 43) → aDraw so k x j = so j := fun j j1 j2 j3 j4 => by
        unfold aDraw; rw [up_n _ _ j3, up_n _ _ j2, rg_out _ _ _ (by omega), tak_lo j1]
      have wn1 : ∀ j v, v < 40 → wn (aDraw so k x) j v = wn (tak so k x) j v := fun j v hv => by
        unfold aDraw; rw [wn_up _ _ _ _ (by omega), wn_up _ _ _ _ (by omega), wn_rg_b]
      refine h _ ⟨?_, ?_, ?_, fun j v hj hv => ?_, fun j hj => ⟨?_, ?_⟩, fun v hv => ?_⟩ (fun a j ha => ?_)
      · rw [u2_k _ _ _ _ (by decide), u2_a _ _ _ _ (by omega), b1 _ _ (by omega), lo1 0 (by decide) (by omega) (by decide) (by omega), C1.1, tak_lo (by decide)]
      · rw [u2_s]; unfold aDraw; rw [up_s]
      · rw [u2_k _ _ _ _ (by decide), u2_a _ _ _ _ (by omega), b1 _ _ (by omega), lo1 2 (by decide) (by omega) (by decide) (by omega), C1.2.2.1, tak_lo (by decide)]
      · rw [u2_a _ _ _ _ (by omega), u2_a _ _ _ _ (by omega), b1 _ _ (by omega), wn1 j v hv]; exact C1.2.2.2.1 j v hj hv
      · rw [u2_a _ _ _ _ (by omega), u2_a _ _ _ _ (by omega), b1 _ _ (by omega), (C1.2.2.2.2.1 j hj).1, ltr_congr (fun v hv => wn1 j v hv)]
      · rw [u2_a _ _ _ _ (by omega)]
        by_cases e : j = k
        · subst e; rw [u2_s]; unfold aDraw; rw [up_n _ _ (by omega), up_s]
        · rw [u2_k _ _ _ _ e, b1 _ _ (by omega), (C1.2.2.2.2.1 j hj).2, lo1 (43 + j) (by omega) (by omega) (by omega) (by omega), tak_lo (by omega)]
      · rw [u2_a _ _ _ _ (by omega), u2_a _ _ _ _ (by omega), b0 v hv]
        unfold btl aDraw; rw [up_n _ _ (by omega), up_n _ _ (by omega), rg_in _ _ _ hv]
      · unfold dT at ha
        rw [u2_a _ _ _ _ (by omega), u2_a _ _ _ _ (by omega), b1 _ _ (by omega)]; exact g2 a j (by omega) (by omega) (by omega) (by omega)
    · rw [if_neg (show ¬ ltr so k < x by omega), if_pos (show hd 3 < so (43 + k) + x by omega), if_neg (by decide)] at h
      exact h I C (frC_rf _ _)
  · rw [if_pos (show ltr so k < x by omega), if_neg (by decide)] at h
    exact h I C (frC_rf _ _)
theorem C_tryTip {k j x : Nat} (hX : shX P K) (S : sC P K c l) (L : rL I l hd) (C : rC I c hd so) (w : wf hd so) (hk : k < hd 1) (hj : j < hd 1) (hx : x ≤ 400) (h : ∀ I', rC I' c hd (dif hd so 3 k j x) → frC c I I' → F (nI (aWhy hd so 3 k j x)) I' J) : ckI G (d + 3) mX2_tryTip [.ref 4, .ref c, .int (nI k), .int (nI j), .int (nI x)] I J P K n F := by
  have hc := wf_casks w
  have hl := wf_ltr w hk
  have hlk := lck_le w hj
  have c34 := S.2.2.2.1
  have hv : vp_in (nI k) 20 := nI_inN (by omega) (by decide)
  have ew : aWhy hd so 3 k j x = wTip hd so k j x := rfl
  unfold dif at h
  rw [ew] at h
  unfold wTip at h
  refine bX2_tryTip_0 hX _ _ _ _ S.1 ?_
  rw [i_eq (by omega) (by omega)]
  refine ⟨fun q => ?_, fun q => ⟨hv, ?_⟩⟩
  · rw [if_pos q, if_neg (by decide)] at h
    exact h I C (frC_rf _ _)
  · rw [if_neg q] at h
    rw [nI_ck (by omega), (C.2.2.2.2.1 k hk).1, i_le (by omega) (by omega)]
    refine ⟨fun q2 => ?_, fun q2 => ?_⟩
    · rw [if_neg (show ¬ ltr so k < x by omega)] at h
      refine C_lackOf S L C w hj ?_
      rw [i_le (by omega) (by omega)]
      refine ⟨fun q3 => ?_, fun q3 => ?_⟩
      · rw [if_neg (show ¬ lck hd so j < x by omega), if_pos rfl] at h
        refine C_takeOut hX S C w hk q2 (fun I1 C1 g1 g2 => ?_)
        have sk := shr_ok (own := wn so k) (m := 40) q2
        refine C_putIn (s := shr (wn so k) 40 x) hX S C1 (wf_tak w q2) hj g1 sk.2.symm (fun I2 C2 g3 => ?_)
        refine h I2 C2 (fun a i ha => ?_)
        unfold dT at ha
        rw [g3 a i (by omega) (by omega)]; exact g2 a i (by omega) (by omega) (by omega) (by omega)
      · rw [if_pos (show lck hd so j < x by omega), if_neg (by decide)] at h
        exact h I C (frC_rf _ _)
    · rw [if_pos (show ltr so k < x by omega), if_neg (by decide)] at h
      exact h I C (frC_rf _ _)
theorem C_angelsShare {k : Nat} (hX : shX P K) (S : sC P K c l) (L : rL I l hd) (C : rC I c hd so) (w : wf hd so) (hk : k < hd 1) (h : ∀ I', rC I' c hd (tak so k (angA hd so k)) → frC c I I' → F (nI (angA hd so k)) I' J) : ckI G (d + 3) mX2_angelsShare [.ref 4, .ref c, .int (nI k)] I J P K n F := by
  have hc := wf_casks w
  have hl := wf_ltr w hk
  have h2 := w.2.2.2.1
  have c34 := S.2.2.2.1
  have hle := angA_le w k
  refine bX2_angelsShare_0 hX _ _ S.1 ⟨l, S.2.1, S.2.2.1, nI_inN (by omega) (by decide), ?_⟩
  have e : (nI (hd 2) * nI (ltr so k) / 100 : Int32) = nI (angA hd so k) := by
    rw [i_mul, Nat.mul_comm]
    have hm : ltr so k * hd 2 ≤ 400 * 9 := Nat.mul_le_mul hl h2
    exact i_div (b := 100) (by omega) (by decide) (by decide)
  rw [nI_ck (by omega), L.1 2 (by decide), (C.2.2.2.2.1 k hk).1, e]
  by_cases z : angA hd so k = 0
  · rw [z] at h ⊢
    rw [tak_0] at h
    exact br_t (by decide) (h I C (frC_rf _ _))
  · refine br_f (nI_nle (by omega) (by omega)) (C_takeOut hX S C w hk hle (fun I1 C1 g1 g2 => h I1 C1 (fun a i ha => ?_)))
    unfold dT at ha
    exact g2 a i (by omega) (by omega) (by omega) (by omega)
end Man1
