section OkArr
variable {G : gG} {d : Nat} {M : gM} {pc : Nat} {L : List (Option Value)} {st : List Value} {I I' : sI} {J J' : sJ} {P P' : sP} {K : sK} {n : Nat} {Q : gQ}
theorem arr_lt {i : Int32} {N : Nat} (h : vp_in i N) : i.toNatClampNeg < N := Nat.not_le.mp fun q => h (Or.inr q)
theorem ok_iaload {a : Nat} {i : Int32} (hd : decode M.2.1 pc = .ok (.iaload, 1)) (h : (K a).1 = 13 ∧ vp_in i (K a).2 ∧ Ok G d M (pc + 1) L (.int (I a i.toNatClampNeg) :: st) I J P K n Q) : Ok G d M pc L (.int i :: .ref a :: st) I J P K n Q := by
  intro p e s m args below meth c ls H locs n0 K0 C R hl hg hq
  obtain ⟨h1, h2, h3⟩ := h
  have q1 := rep_arr R (t := 0) h1 (by decide)
  have had : gAd G a = gB G + a := rep_ad R (rep_lt R (by omega))
  obtain ⟨hx, hb, hml, hret, hown, hts, hlk, hnm, hK, hsz, hxt⟩ := id C
  exact W.iald (v := .int (I a i.toNatClampNeg)) hx hb (a := gAd G a) (by rw [had]; exact q1) ((hK.2 0 _ rfl).1 _ _) (fun q => by cases q) (by rw [arrV_size]; exact h2) (by rw [arrV_read _ _ (arr_lt h2)]; rfl) rfl rfl hd (h3 p e s m args below meth c ls H locs n0 K0 C R hl hg hq)
theorem ok_laload {a : Nat} {i : Int32} (hd : decode M.2.1 pc = .ok (.laload, 1)) (h : (K a).1 = 14 ∧ vp_in i (K a).2 ∧ Ok G d M (pc + 1) L (.long (J a i.toNatClampNeg) :: st) I J P K n Q) : Ok G d M pc L (.int i :: .ref a :: st) I J P K n Q := by
  intro p e s m args below meth c ls H locs n0 K0 C R hl hg hq
  obtain ⟨h1, h2, h3⟩ := h
  have q1 := rep_arr R (t := 1) h1 (by decide)
  have had : gAd G a = gB G + a := rep_ad R (rep_lt R (by omega))
  obtain ⟨hx, hb, hml, hret, hown, hts, hlk, hnm, hK, hsz, hxt⟩ := id C
  exact W.lald (v := .long (J a i.toNatClampNeg)) hx hb (a := gAd G a) (by rw [had]; exact q1) ((hK.2 1 _ rfl).1 _ _) (fun q => by cases q) (by rw [arrV_size]; exact h2) (by rw [arrV_read _ _ (arr_lt h2)]; rfl) rfl rfl hd (h3 p e s m args below meth c ls H locs n0 K0 C R hl hg hq)
theorem ok_baload {a : Nat} {i : Int32} (hd : decode M.2.1 pc = .ok (.baload, 1)) (h : (K a).1 = 15 ∧ vp_in i (K a).2 ∧ Ok G d M (pc + 1) L (.int (I a i.toNatClampNeg) :: st) I J P K n Q) : Ok G d M pc L (.int i :: .ref a :: st) I J P K n Q := by
  intro p e s m args below meth c ls H locs n0 K0 C R hl hg hq
  obtain ⟨h1, h2, h3⟩ := h
  have q1 := rep_arr R (t := 2) h1 (by decide)
  have had : gAd G a = gB G + a := rep_ad R (rep_lt R (by omega))
  obtain ⟨hx, hb, hml, hret, hown, hts, hlk, hnm, hK, hsz, hxt⟩ := id C
  exact W.zald (v := .int (I a i.toNatClampNeg)) hx hb (a := gAd G a) (by rw [had]; exact q1) ((hK.2 2 _ rfl).1 _ _) (fun q => by cases q) (by rw [arrV_size]; exact h2) (by rw [arrV_read _ _ (arr_lt h2)]; rfl) rfl rfl hd (h3 p e s m args below meth c ls H locs n0 K0 C R hl hg hq)
theorem ok_aald {a t : Nat} {i : Int32} {ty : FieldType} {v : Value} (ht : (gTys G)[t]? = some (G.2.2.2.1 t, ty)) (hr : ty.isReference = true) (h36 : 3 ≤ t ∧ t < 6) (hd : decode M.2.1 pc = .ok (.aaload, 1)) (h1 : (K a).1 = 13 + t) (h2 : vp_in i (K a).2) (hv : gR G (P a i.toNatClampNeg) = gV G v) (h3 : Ok G d M (pc + 1) L (v :: st) I J P K n Q) : Ok G d M pc L (.int i :: .ref a :: st) I J P K n Q := by
  intro p e s m args below meth c ls H locs n0 K0 C R hl hg hq
  have q1 := rep_arr R (t := t) h1 h36.2
  have had : gAd G a = gB G + a := rep_ad R (rep_lt R (by omega))
  obtain ⟨hx, hb, hml, hret, hown, hts, hlk, hnm, hK, hsz, hxt⟩ := id C
  refine W.aald (v := gV G v) hx hb (a := gAd G a) (ty := ty) (by rw [had]; exact q1) ((hK.2 t _ ht).1 _ _) hr (fun q => by cases q) (by rw [arrV_size]; exact h2) (by rw [arrV_read _ _ (arr_lt h2)]; rw [← hv]; unfold gE; rw [if_neg (by omega), if_pos h36.1]) rfl rfl hd (h3 p e s m args below meth c ls H locs n0 K0 C R hl hg hq)
theorem ok_aaload {a : Nat} {i : Int32} (hd : decode M.2.1 pc = .ok (.aaload, 1)) (h : (K a).1 = 18 ∧ vp_in i (K a).2 ∧ ∃ b, P a i.toNatClampNeg = some b ∧ Ok G d M (pc + 1) L (.ref b :: st) I J P K n Q) : Ok G d M pc L (.int i :: .ref a :: st) I J P K n Q := by
  obtain ⟨h1, h2, b, h3, h4⟩ := h
  exact ok_aald (t := 5) (ty := .array .int) rfl rfl ⟨by decide, by decide⟩ hd h1 h2 (v := .ref b) (by rw [h3]; rfl) h4
/-- of a Cellar[] (t = 3), a Sentence[] (t = 4): null too -/
theorem ok_aaloadN {a : Nat} {i : Int32} (t : Nat) (ht : t = 3 ∨ t = 4) (hd : decode M.2.1 pc = .ok (.aaload, 1)) (h : (K a).1 = 13 + t ∧ vp_in i (K a).2 ∧ (∀ b, P a i.toNatClampNeg = some b → Ok G d M (pc + 1) L (.ref b :: st) I J P K n Q) ∧ (P a i.toNatClampNeg = none → Ok G d M (pc + 1) L (.null :: st) I J P K n Q)) : Ok G d M pc L (.int i :: .ref a :: st) I J P K n Q := by
  obtain ⟨h1, h2, h3, h4⟩ := h
  cases hp : P a i.toNatClampNeg with
  | none => rcases ht with e | e <;> subst e
            · exact ok_aald (t := 3) rfl rfl ⟨by decide, by decide⟩ hd h1 h2 (v := .null) (by rw [hp]; rfl) (h4 hp)
            · exact ok_aald (t := 4) rfl rfl ⟨by decide, by decide⟩ hd h1 h2 (v := .null) (by rw [hp]; rfl) (h4 hp)
  | some b => rcases ht with e | e <;> subst e
              · exact ok_aald (t := 3) rfl rfl ⟨by decide, by decide⟩ hd h1 h2 (v := .ref b) (by rw [hp]; rfl) (h3 b hp)
              · exact ok_aald (t := 4) rfl rfl ⟨by decide, by decide⟩ hd h1 h2 (v := .ref b) (by rw [hp]; rfl) (h3 b hp)
theorem ok_alen {a : Nat} (hd : decode M.2.1 pc = .ok (.arraylength, 1)) (h : (K a).1 = 13 ∧ Ok G d M (pc + 1) L (.int (nI (K a).2) :: st) I J P K n Q) : Ok G d M pc L (.ref a :: st) I J P K n Q := by
  intro p e s m args below meth c ls H locs n0 K0 C R hl hg hq
  obtain ⟨h1, h3⟩ := h
  have q1 := rep_arr R (t := 0) h1 (by decide)
  have had : gAd G a = gB G + a := rep_ad R (rep_lt R (by omega))
  obtain ⟨hx, hb, hml, hret, hown, hts, hlk, hnm, hK, hsz, hxt⟩ := id C
  exact W.alen (n := nI (K a).2) hx hb (a := gAd G a) (by rw [had]; exact q1) ((hK.2 0 _ rfl).1 _ _) (by rw [arrV_size]; rfl) rfl rfl hd (h3 p e s m args below meth c ls H locs n0 K0 C R hl hg hq)
theorem arr_put {H H' : Heap} (R : Rep G I J P K n H) {a t k : Nat} {v : Value} (hk : (K a).1 = 13 + t) (ht : t < 6) (e1 : H'[gB G + a]? = some ((arrV (G.2.2.2.1 t) (K a).2 (fun j => gE G I J P a j t)).setSlot k v)) (e2 : H'.size = H.size) (e3 : ∀ q : Nat, q ≠ gB G + a → H'[q]? = H[q]?)
    (hsame : ∀ b k, b ≠ a → I' b k = I b k ∧ J' b k = J b k ∧ P' b k = P b k) (hs2 : ∀ j, j ≠ k → I' a j = I a j ∧ J' a j = J a j ∧ P' a j = P a j) (hv : gE G I' J' P' a k t = v) : Rep G I' J' P' K n H' := by
  have hlt : a < n := rep_lt R (by omega)
  rw [arrV_store] at e1
  refine rep_put R hlt e2 e3 ⟨_, e1, by rw [arrV_size]⟩ hsame ?_
  unfold gC
  rw [hk, if_neg (by omega), if_pos (by omega), show 13 + t - 13 = t by omega, e1]
  refine congrArg some (congrArg (arrV _ _) (funext fun j => ?_))
  by_cases e : j = k
  · subst e
    simp [updV, hv]
  · simp only [updV, if_neg e]
    obtain ⟨g1, g2, g3⟩ := hs2 j e
    unfold gE
    simp [g1, g2, g3]
theorem locs_add {locs : List Loc} {a k : Nat} (hq : ∀ q ∈ locs, gB G ≤ q.base) (h : gB G ≤ a) : ∀ q ∈ locs ++ [⟨a, k⟩], gB G ≤ q.base := by
  intro z hz
  rcases List.mem_append.mp hz with q | q
  · exact hq z q
  · rw [List.mem_singleton.mp q]; exact h
theorem ok_iastore {a : Nat} {i x : Int32} (hd : decode M.2.1 pc = .ok (.iastore, 1)) (h : (K a).1 = 13 ∧ vp_in i (K a).2 ∧ Ok G d M (pc + 1) L st (u2 I a i.toNatClampNeg x) J P K n Q) : Ok G d M pc L (.int x :: .int i :: .ref a :: st) I J P K n Q := by
  intro p e s m args below meth c ls H locs n0 K0 C R hl hg hq
  obtain ⟨h1, h2, h3⟩ := h
  have q1 := rep_arr R (t := 0) h1 (by decide)
  have had : gAd G a = gB G + a := rep_ad R (rep_lt R (by omega))
  obtain ⟨hx, hb, hml, hret, hown, hts, hlk, hnm, hK, hsz, hxt⟩ := id C
  exact W.iast hx hb (a := gAd G a) (by rw [had]; exact q1) ((hK.2 0 _ rfl).1 _ _) (fun q => by cases q) (by rw [arrV_size]; exact h2) rfl rfl hd (fun H' e1 e2 e3 => h3 p e s m args below meth c ls H' _ n0 K0 C (arr_put R (t := 0) h1 (by decide) (by rw [← had]; exact e1) e2 (by rw [← had]; exact e3) (fun b k hb => ⟨u2_a I _ k x hb, rfl, rfl⟩) (fun k hk => ⟨u2_k I a a x hk, rfl, rfl⟩) (by show Value.int _ = _; rw [u2_s])) hl hg (locs_add hq (by omega)))
theorem ok_lastore {a : Nat} {i : Int32} {x : Int64} (hd : decode M.2.1 pc = .ok (.lastore, 1)) (h : (K a).1 = 14 ∧ vp_in i (K a).2 ∧ Ok G d M (pc + 1) L st I (u2 J a i.toNatClampNeg x) P K n Q) : Ok G d M pc L (.long x :: .int i :: .ref a :: st) I J P K n Q := by
  intro p e s m args below meth c ls H locs n0 K0 C R hl hg hq
  obtain ⟨h1, h2, h3⟩ := h
  have q1 := rep_arr R (t := 1) h1 (by decide)
  have had : gAd G a = gB G + a := rep_ad R (rep_lt R (by omega))
  obtain ⟨hx, hb, hml, hret, hown, hts, hlk, hnm, hK, hsz, hxt⟩ := id C
  exact W.last hx hb (a := gAd G a) (by rw [had]; exact q1) ((hK.2 1 _ rfl).1 _ _) (fun q => by cases q) (by rw [arrV_size]; exact h2) rfl rfl hd (fun H' e1 e2 e3 => h3 p e s m args below meth c ls H' _ n0 K0 C (arr_put R (t := 1) h1 (by decide) (by rw [← had]; exact e1) e2 (by rw [← had]; exact e3) (fun b k hb => ⟨rfl, u2_a J _ k x hb, rfl⟩) (fun k hk => ⟨rfl, u2_k J a a x hk, rfl⟩) (by show Value.long _ = _; rw [u2_s])) hl hg (locs_add hq (by omega)))
/-- of a boolean[]: 1 is stored -/
theorem ok_bastore1 {a : Nat} {i : Int32} (hd : decode M.2.1 pc = .ok (.bastore, 1)) (h : (K a).1 = 15 ∧ vp_in i (K a).2 ∧ Ok G d M (pc + 1) L st (u2 I a i.toNatClampNeg 1) J P K n Q) : Ok G d M pc L (.int 1 :: .int i :: .ref a :: st) I J P K n Q := by
  intro p e s m args below meth c ls H locs n0 K0 C R hl hg hq
  obtain ⟨h1, h2, h3⟩ := h
  have q1 := rep_arr R (t := 2) h1 (by decide)
  have had : gAd G a = gB G + a := rep_ad R (rep_lt R (by omega))
  obtain ⟨hx, hb, hml, hret, hown, hts, hlk, hnm, hK, hsz, hxt⟩ := id C
  exact W.zast hx hb (a := gAd G a) (by rw [had]; exact q1) ((hK.2 2 _ rfl).1 _ _) (fun q => by cases q) (by rw [arrV_size]; exact h2) rfl rfl hd (fun H' e1 e2 e3 => h3 p e s m args below meth c ls H' _ n0 K0 C (arr_put R (t := 2) h1 (by decide) (by rw [← had]; exact e1) e2 (by rw [← had]; exact e3) (fun b k hb => ⟨u2_a I _ k 1 hb, rfl, rfl⟩) (fun k hk => ⟨u2_k I a a 1 hk, rfl, rfl⟩) (by show Value.int _ = _; rw [u2_s]; decide)) hl hg (locs_add hq (by omega)))
theorem ok_aastore {a b ci : Nat} {i : Int32} {r : vw_C} (t : Nat) (ht : (gTys G)[t]? = some (G.2.2.2.1 t, .object r.1)) (h36 : 3 ≤ t ∧ t < 6) (hc : vwCl[ci]? = some r) (hc13 : ci < 13) (hd : decode M.2.1 pc = .ok (.aastore, 1)) (h : (K a).1 = 13 + t ∧ vp_in i (K a).2 ∧ (K b).1 = ci ∧ Ok G d M (pc + 1) L st I J (u2 P a i.toNatClampNeg (some b)) K n Q) : Ok G d M pc L (.ref b :: .int i :: .ref a :: st) I J P K n Q := by
  intro p e s m args below meth c ls H locs n0 K0 C R hl hg hq
  obtain ⟨h1, h2, hkb, h3⟩ := h
  have q1 := rep_arr R (t := t) h1 h36.2
  have had : gAd G a = gB G + a := rep_ad R (rep_lt R (by omega))
  have hbd : gAd G b = gB G + b := rep_ad R (rep_lt R (by omega))
  obtain ⟨hx, hb, hml, hret, hown, hts, hlk, hnm, hK, hsz, hxt⟩ := id C
  have h0 : ¬ i < 0 := fun q => h2 (Or.inl q)
  obtain ⟨r', hr', -, cellV, g1, g2, g3, -⟩ := rep_obj R hkb hc13
  have hcls := (hK.1 ci r hc).2
  obtain ⟨kA, comp, k1, k2, k3, -⟩ := (hK.2 t _ ht).2
  have hcomp : comp = G.2.2.1.1 ci := Option.some.inj (k3.symm.trans hcls.1)
  subst hcomp
  obtain ⟨kC, hkC, -⟩ := hcls.2
  exact W.aast hx hb (a := gAd G a) (v := gAd G b) (by rw [had]; exact q1) (fun q h => by cases h) (fun h => by cases h) k1 k2 rfl hkC ⟨h0, by rw [arrV_size]; exact arr_lt h2⟩ (by rw [hbd]; exact g1) (fun q h => by rw [g3] at h; cases h) (by rw [g2]; exact hkC) (by rw [g2]; exact va_assign hcls) rfl rfl hd (fun H' e1 e2 e3 => h3 p e s m args below meth c ls H' _ n0 K0 C (arr_put R (t := t) h1 h36.2 (by rw [← had]; exact e1) e2 (by rw [← had]; exact e3) (fun b' k hb => ⟨rfl, rfl, u2_a P _ k (some b) hb⟩) (fun k hk => ⟨rfl, rfl, u2_k P a a (some b) hk⟩) (by unfold gE; rw [if_neg (by omega), if_pos h36.1, u2_s]; rfl)) hl hg (locs_add hq (by omega)))
theorem ok_aastoreN {a : Nat} {i : Int32} {C : String} (t : Nat) (ht : (gTys G)[t]? = some (G.2.2.2.1 t, .object C)) (h36 : 3 ≤ t ∧ t < 6) (hd : decode M.2.1 pc = .ok (.aastore, 1)) (h : (K a).1 = 13 + t ∧ vp_in i (K a).2 ∧ Ok G d M (pc + 1) L st I J (u2 P a i.toNatClampNeg none) K n Q) : Ok G d M pc L (.null :: .int i :: .ref a :: st) I J P K n Q := by
  intro p e s m args below meth c ls H locs n0 K0 C' R hl hg hq
  obtain ⟨h1, h2, h3⟩ := h
  have q1 := rep_arr R (t := t) h1 h36.2
  have had : gAd G a = gB G + a := rep_ad R (rep_lt R (by omega))
  obtain ⟨hx, hb, hml, hret, hown, hts, hlk, hnm, hK, hsz, hxt⟩ := id C'
  exact va_WaastN (C := C) hx hb (a := gAd G a) (by rw [had]; exact q1) ((hK.2 t _ ht).1 _ _) (fun h => by cases h) (by rw [arrV_size]; exact h2) rfl rfl hd (fun H' e1 e2 e3 => h3 p e s m args below meth c ls H' _ n0 K0 C' (arr_put R (t := t) h1 h36.2 (by rw [← had]; exact e1) e2 (by rw [← had]; exact e3) (fun b' k hb => ⟨rfl, rfl, u2_a P _ k none hb⟩) (fun k hk => ⟨rfl, rfl, u2_k P a a none hk⟩) (by unfold gE; rw [if_neg (by omega), if_pos h36.1, u2_s]; rfl)) hl hg (locs_add hq (by omega)))
end OkArr
