/-- ints copied from the cell a into the cell b -/
def cpI (I : sI) (a b sp dp len : Nat) : sI := fun a' k => if a' = b then va_cpy (I a) (I b) sp dp len k else I a' k
/-- N + 1 fresh cells from n on -/
def zr {α : Type} (f : Nat → Nat → α) (n N : Nat) (v : α) : Nat → Nat → α := fun a k => if n ≤ a ∧ a < n + (N + 1) then v else f a k
def mnP (P : sP) (n N : Nat) : sP := fun a k => if a = n then (if k < N then some (n + 1 + k) else none) else if n < a ∧ a < n + (N + 1) then none else P a k
def mnK (K : sK) (n N M : Nat) : sK := fun a => if a = n then (18, N) else if n < a ∧ a < n + (N + 1) then (13, M) else K a
theorem gS_mn (K : sK) (n N M : Nat) : ∀ i, i ≤ N → gS (mnK K n N M) (n + 1 + i) = gS K n + N + i * M := by
  intro i
  induction i with
  | zero =>
    intro _
    show gS (mnK K n N M) n + (mnK K n N M n).2 = _
    rw [gS_congr (K' := K) (fun a ha => by simp only [mnK]; rw [if_neg (by omega), if_neg (by omega)])]
    simp [mnK]
  | succ i ih =>
    intro h
    rw [show n + 1 + (i + 1) = (n + 1 + i) + 1 by omega]
    show gS (mnK K n N M) (n + 1 + i) + (mnK K n N M (n + 1 + i)).2 = _
    rw [ih (by omega)]
    have : mnK K n N M (n + 1 + i) = (13, M) := by simp only [mnK]; rw [if_neg (by omega), if_pos (by omega)]
    rw [this, Nat.succ_mul]
    show _ + M = _
    omega
theorem outer_eq (c : ClassId) (N h0 : Nat) : ∀ i : Nat, Jvm.Free.Multi.outerC c N h0 i = arrV c N (fun j => if j < i then .ref (h0 + 1 + j) else .null)
  | 0 => by
    show ({ cls := c, slots := Array.replicate N .null, vm := .none } : Cell) = _
    rw [arrV_new]
    refine congrArg (arrV c N) (funext fun j => ?_)
    simp
  | i + 1 => by
    show (Jvm.Free.Multi.outerC c N h0 i).setSlot i (.ref (h0 + 1 + i)) = _
    rw [outer_eq c N h0 i, arrV_store]
    refine congrArg (arrV c N) (funext fun j => ?_)
    by_cases e : j = i
    · subst e
      simp [updV]
    · by_cases h : j < i
      · simp [updV, e, h, Nat.lt_succ_of_lt h]
      · simp [updV, e, h, show ¬ j < i + 1 by omega]
section OkSpec
variable {G : gG} {d : Nat} {M : gM} {pc : Nat} {L : List (Option Value)} {st : List Value} {I I' : sI} {J J' : sJ} {P P' : sP} {K : sK} {n : Nat} {Q Q' : gQ}
theorem cat_gV (G : gG) {st : List Value} (hcat : (st.map fun v => v.category).sum ≤ 8) : ((st.map (gV G)).map fun v => v.category).sum ≤ 8 := by rw [List.map_map, show (fun v => v.category) ∘ gV G = fun v => v.category from funext (gV_cat G)]; exact hcat
theorem ac_w1 : Cond.static arraycopyName ∈ tbG := tbm 674 (by decide +kernel) rfl
theorem ac_w2 : Cond.native arraycopyName ∈ tbG := tbm 675 (by decide +kernel) rfl
theorem ac_w3 : Cond.initialized "java/lang/System" ∈ tbG := tbm 22 (by decide +kernel) rfl
theorem ok_copy {idx a b : Nat} {sp dp len : Int32} (hd : decode M.2.1 pc = .ok (.invokestatic idx, 3)) (w1 : Cond.methodLink M.1.cls idx arraycopyName ∈ tbG) (hcat : (st.map fun v => v.category).sum ≤ 8)
    (h : a ≠ b ∧ (K a).1 = 13 ∧ (K b).1 = 13 ∧ ¬ sp < 0 ∧ ¬ dp < 0 ∧ ¬ len < 0 ∧ sp.toNatClampNeg + len.toNatClampNeg ≤ (K a).2 ∧ dp.toNatClampNeg + len.toNatClampNeg ≤ (K b).2 ∧ Ok G (d + 1) M (pc + 3) L st (cpI I a b sp.toNatClampNeg dp.toNatClampNeg len.toNatClampNeg) J P K n Q) : Ok G (d + 1) M pc L (.int len :: .int dp :: .ref b :: .int sp :: .ref a :: st) I J P K n Q := by
  intro p e s m args below meth c ls H locs n0 K0 C R hl hg hq
  obtain ⟨hab, ka, kb, h1, h2, h3, h4, h5, h⟩ := h
  obtain ⟨hx, hb, hml, hret, hown, hts, hlk, hnm, hK, hsz, hxt⟩ := id C
  have q1 := rep_arr R (t := 0) ka (by decide)
  have q2 := rep_arr R (t := 0) kb (by decide)
  have la : a < n := rep_lt R (by omega)
  have lb : b < n := rep_lt R (by omega)
  have hada : gAd G a = gB G + a := rep_ad R la
  have hadb : gAd G b = gB G + b := rep_ad R lb
  have nn : ∀ z : Int32, ¬ z < 0 → z.toInt = (z.toNatClampNeg : Int) := by
    intro z hz
    have hz0 : (0 : Int) ≤ z.toInt := by
      have := Int32.not_lt.mp hz
      simpa using Int32.le_iff_toInt_le.mp this
    show z.toInt = ((z.toInt.toNat : Nat) : Int)
    omega
  intro T hT X
  have hc0 : H[gAd G a]? = some (vp_cell (G.2.2.2.1 0) ((K a).2, .inl (I a))) := by rw [hada, q1]; rfl
  have hc1 : H[gAd G b]? = some (vp_cell (G.2.2.2.1 0) ((K b).2, .inl (I b))) := by rw [hadb, q2]; rfl
  obtain ⟨-, k0, hk0, cm0, hkk0⟩ := (hK.2 0 _ rfl).1 (K a).2 (fun j => .int (I a j))
  obtain ⟨-, k1, hk1, cm1, hkk1⟩ := (hK.2 0 _ rfl).1 (K b).2 (fun j => .int (I b j))
  have hlo : (((st.map (gV G)).map fun v => v.category).sum + (nativeFrameWords "java/lang/System" "arraycopy" 5 + 11)) ≤ (gRm (d + 1) n0 (gS K0 n0)).locals := by
    have hc := cat_gV G hcat
    have hw : nativeFrameWords "java/lang/System" "arraycopy" 5 ≤ 40 := by decide
    show _ ≤ 64 * (d + 1)
    omega
  obtain ⟨vm', X', step⟩ := X.arraycopy hx hown (hts _ w1) (hts _ ac_w2) (hts _ ac_w1) (hts _ ac_w3) (src := gAd G a) (dst := gAd G b) (cs := vp_cell (G.2.2.2.1 0) ((K a).2, .inl (I a))) (cd := vp_cell (G.2.2.2.1 0) ((K b).2, .inl (I b))) (srcPos := sp) (destPos := dp) (n := len) (by rw [hT]; exact hc0) (by rw [hT]; exact hc1)
    (fun _ h => by cases h) (fun _ h => by cases h) (fun h => by cases h) (fun h => by cases h) hk0 hk1 hkk0 hkk1 (by simp [refKind]) h1 h2 h3
    (by rw [nn sp h1, nn len h3]; show ¬ _ > ((arrV _ (K a).2 (fun j => .int (I a j))).slots.size : Int); rw [arrV_size]; omega)
    (by rw [nn dp h2, nn len h3]; show ¬ _ > ((arrV _ (K b).2 (fun j => .int (I b j))).slots.size : Int); rw [arrV_size]; omega)
    (fun vm₁ _ i hi => by
      have e : (vp_cell (G.2.2.2.1 0) ((K a).2, .inl (I a))).slots.getD (sp.toNatClampNeg + i) .null = .int (I a (sp.toNatClampNeg + i)) := by
        show (arrV _ (K a).2 (fun j => .int (I a j))).slots.getD _ _ = _
        rw [Array.getD_eq_getD_getElem?, arrV_read _ _ (by omega)]
        rfl
      refine ⟨?_, ?_⟩
      · rw [e]
        rfl
      · rw [e]
        exact trivial)
    (g := F0 m pc ls ((.int len :: .int dp :: .ref b :: .int sp :: .ref a :: st).map (gV G))) rfl (by rw [hml]; exact hl.1) (rest := st.map (gV G)) rfl (by rw [hb]; exact hd) (by show 1 ≤ d + 1; omega) (by show 2 * 0 + _ + _ ≤ _; omega)
  have e1 : copied (vp_cell (G.2.2.2.1 0) ((K a).2, .inl (I a))) (vp_cell (G.2.2.2.1 0) ((K b).2, .inl (I b))) sp dp len = vp_cell (G.2.2.2.1 0) ((K b).2, .inl (va_cpy (I a) (I b) sp.toNatClampNeg dp.toNatClampNeg len.toNatClampNeg)) := va_copied (fun z => .int z) _ _ (I a) (I b) h4
  rw [e1] at X' step
  have hlt : gAd G b < H.size := (Array.getElem?_eq_some_iff.mp hc1).1
  generalize hcell : vp_cell (G.2.2.2.1 0) ((K b).2, .inl (va_cpy (I a) (I b) sp.toNatClampNeg dp.toNatClampNeg len.toNatClampNeg)) = cell at X' step e1
  have hheap : ((T.setVm vm').setCell (gAd G b) cell).heap = H.setIfInBounds (gAd G b) cell := by rw [← hT]; rfl
  have oq : ∀ q : Nat, q ≠ gB G + b → (H.setIfInBounds (gAd G b) cell)[q]? = H[q]? := fun q hq => by rw [hadb]; simp [Array.getElem?_setIfInBounds, Ne.symm hq]
  have hself : (H.setIfInBounds (gAd G b) cell)[gB G + b]? = some cell := by rw [hadb] at hlt ⊢; simp [Array.getElem?_setIfInBounds, hlt]
  have R2 : Rep G (cpI I a b sp.toNatClampNeg dp.toNatClampNeg len.toNatClampNeg) J P K n (H.setIfInBounds (gAd G b) cell) := by
    refine rep_put R lb (by simp) oq ⟨cell, hself, by rw [← hcell]; show (arrV _ _ _).slots.size = _; rw [arrV_size]⟩ (fun c' k hc => ⟨by simp [cpI, hc], rfl, rfl⟩) ?_
    unfold gC
    rw [kb, if_neg (by decide), if_pos (by decide), hself, ← hcell, vp_cell_i]
    refine congrArg some (congrArg (arrV _ _) (funext fun j => ?_))
    show _ = gE _ _ _ _ _ _ 0
    unfold gE
    simp [cpI]
  obtain ⟨t, a1, b1⟩ := h p e s m args below meth c ls _ _ n0 K0 C R2 hl hg (fun z hz => by
      rcases List.mem_append.mp hz with q | q
      · exact hq z q
      · obtain ⟨w, -, hw⟩ := List.mem_map.mp q
        rw [← hw]
        show gB G ≤ gAd G b
        omega) _ hheap X'
  exact ⟨t, step t a1, b1⟩
end OkSpec
