theorem clIn {ci : Nat} {q : vw_C} (h : vwCl[ci]? = some q) : ∀ w ∈ u_ws q.1 q.2.1 q.2.2, w ∈ tbG := by
  intro w hw
  have h1 := List.all_eq_true.mp clIn0 q (List.mem_of_getElem? h)
  have h2 := List.all_eq_true.mp h1 w hw
  exact List.contains_iff_mem.mp h2
/-- field j of class ci, under the entry idx of the class own -/
def FI (own : String) (idx ci j : Nat) (q : vw_C) : Prop := vwCl[ci]? = some q ∧ ci < 13 ∧ j < q.2.2 ∧ Cond.fieldLink own idx (q.2.1 j).1 (q.2.1 j).2.1 (q.2.1 j).2.2.1 ∈ tbG
section OkMem
variable {G : gG} {d : Nat} {M : gM} {pc : Nat} {L : List (Option Value)} {st : List Value} {I I' : sI} {J J' : sJ} {P P' : sP} {K : sK} {n : Nat} {Q : gQ}
theorem ok_getf {ci j idx a : Nat} {q : vw_C} {v : Value} (hd : decode M.2.1 pc = .ok (.getfield idx, 3)) (hF : FI M.1.cls idx ci j q) (hk : (K a).1 = ci) (hv : gF G I J P a j (gTy ci j) = gV G v)
    (h : Ok G d M (pc + 3) L (v :: st) I J P K n Q) : Ok G d M pc L (.ref a :: st) I J P K n Q := by
  intro p e s m args below meth c ls H locs n0 K0 C R hl hg hq
  obtain ⟨f1, f2, f3, f4⟩ := hF
  obtain ⟨r, h1, h2, cell, q1, q2, q3, q4⟩ := rep_obj R hk f2
  have hr : r = q := Option.some.inj (h1.symm.trans f1)
  subst hr
  obtain ⟨hx, hb, hml, hret, hown, hts, hlk, hnm, hK, hsz, hxt⟩ := id C
  obtain ⟨hS, hfc, kC, hkC, hkind⟩ := hK.1 ci _ f1
  obtain ⟨cf, kf, fi, f, hi, hsl⟩ := hS j f3
  have had : gAd G a = gB G + a := rep_ad R (rep_lt R (by omega))
  refine W.getf hx hb hown (hts _ f4) hi (u_facts hfc hkC (u_lays hts (clIn f1) f3) hi).1 (a := gAd G a) (by rw [had]; exact q1) (by rw [q3]; exact fun h => by cases h) (v := gV G v) ?_ rfl rfl hd (h p e s m args below meth c ls H locs n0 K0 C R hl hg hq)
  rw [hsl, q4 j f3]
  exact congrArg some hv
theorem ok_getI {ci j idx a : Nat} {q : vw_C} (hd : decode M.2.1 pc = .ok (.getfield idx, 3)) (hF : FI M.1.cls idx ci j q) (ht : gTy ci j = .int ∨ gTy ci j = .boolean) (h : (K a).1 = ci ∧ Ok G d M (pc + 3) L (.int (I a j) :: st) I J P K n Q) : Ok G d M pc L (.ref a :: st) I J P K n Q :=
  ok_getf hd hF h.1 (v := .int (I a j)) (by rcases ht with e | e <;> rw [e] <;> rfl) h.2
theorem ok_getJ {ci j idx a : Nat} {q : vw_C} (hd : decode M.2.1 pc = .ok (.getfield idx, 3)) (hF : FI M.1.cls idx ci j q) (ht : gTy ci j = .long) (h : (K a).1 = ci ∧ Ok G d M (pc + 3) L (.long (J a j) :: st) I J P K n Q) : Ok G d M pc L (.ref a :: st) I J P K n Q :=
  ok_getf hd hF h.1 (v := .long (J a j)) (by rw [ht]; rfl) h.2
def tyRef (t : FieldType) : Bool := match t with
  | .object _ => true
  | .array _ => true
  | _ => false
theorem gF_ref {a j : Nat} {t : FieldType} (h : tyRef t = true) : gF G I J P a j t = gR G (P a j) := by
  cases t <;> first | rfl | cases h
theorem ok_getP {ci j idx a : Nat} {q : vw_C} (hd : decode M.2.1 pc = .ok (.getfield idx, 3)) (hF : FI M.1.cls idx ci j q) (ht : tyRef (gTy ci j) = true) (h : (K a).1 = ci ∧ ∃ b, P a j = some b ∧ Ok G d M (pc + 3) L (.ref b :: st) I J P K n Q) : Ok G d M pc L (.ref a :: st) I J P K n Q := by
  obtain ⟨h1, b, h2, h3⟩ := h
  exact ok_getf hd hF h1 (v := .ref b) (by rw [gF_ref ht, h2]; rfl) h3
theorem ok_getN {ci j idx a : Nat} {q : vw_C} (hd : decode M.2.1 pc = .ok (.getfield idx, 3)) (hF : FI M.1.cls idx ci j q) (ht : tyRef (gTy ci j) = true) (h : (K a).1 = ci ∧ (∀ b, P a j = some b → Ok G d M (pc + 3) L (.ref b :: st) I J P K n Q) ∧ (P a j = none → Ok G d M (pc + 3) L (.null :: st) I J P K n Q)) : Ok G d M pc L (.ref a :: st) I J P K n Q := by
  obtain ⟨h1, h2, h3⟩ := h
  cases hp : P a j with
  | none => exact ok_getf hd hF h1 (v := .null) (by rw [gF_ref ht, hp]; rfl) (h3 hp)
  | some b => exact ok_getf hd hF h1 (v := .ref b) (by rw [gF_ref ht, hp]; rfl) (h2 b hp)
theorem ok_putf {ci j idx a : Nat} {q : vw_C} {v : Value} (hd : decode M.2.1 pc = .ok (.putfield idx, 3)) (hF : FI M.1.cls idx ci j q) (hk : (K a).1 = ci) (hfin : (q.2.1 j).2.2.2 = false ∨ (M.1.name = "<init>" ∧ (q.2.1 j).1 = M.1.cls))
    (hn : narrow (gTy ci j) (gV G v) = gV G v) (hfit : fits (gTy ci j) (gV G v) = true) (hsame : ∀ b k, b ≠ a → I' b k = I b k ∧ J' b k = J b k ∧ P' b k = P b k) (hs2 : ∀ k, k ≠ j → I' a k = I a k ∧ J' a k = J a k ∧ P' a k = P a k) (hv : gF G I' J' P' a j (gTy ci j) = gV G v)
    (h : Ok G d M (pc + 3) L st I' J' P' K n Q) : Ok G d M pc L (v :: .ref a :: st) I J P K n Q := by
  intro p e s m args below meth c ls H locs n0 K0 C R hl hg hq
  obtain ⟨f1, f2, f3, f4⟩ := hF
  obtain ⟨r, h1, h2, cell, q1, q2, q3, q4⟩ := rep_obj R hk f2
  have hr : r = q := Option.some.inj (h1.symm.trans f1)
  subst hr
  obtain ⟨hx, hb, hml, hret, hown, hts, hlk, hnm, hK, hsz, hxt⟩ := id C
  have hin := clIn f1
  have hap := va_apart (own := M.1.cls) hts hin (gTy ci) (clTy ci _ f1) (clNm ci _ f1) hK f1
  obtain ⟨hS, hfc, kC, hkC, hkind⟩ := hK.1 ci _ f1
  obtain ⟨cf, kf, fi, f, hi, hsl⟩ := hS j f3
  have hlt : a < n := rep_lt R (by omega)
  have had : gAd G a = gB G + a := rep_ad R hlt
  have hst := (u_facts hfc hkC (u_lays hts hin f3) hi).1
  have key : ∀ H' : Heap, H'[gB G + a]? = some (cell.setSlot f.slot (gV G v)) → H'.size = H.size → (∀ q : Nat, q ≠ gB G + a → H'[q]? = H[q]?) → W p G.1 e (gRm d n0 (gS K0 n0)) s m args below meth c H' (locs ++ [⟨gAd G a, f.slot⟩]) (n - n0) (gS K n - gS K n0) (MQ below (gQc G Q n0 K0) args s (601024 - n0) (7293034 - gS K0 n0) (fun a => gB G ≤ a)) (F0 m (pc + 3) ls (st.map (gV G))) := by
    intro H' e1 e2 e3
    rw [hsl] at e1
    refine h p e s m args below meth c ls H' _ n0 K0 C (rep_put R hlt e2 e3 ⟨_, e1, ?_⟩ hsame ?_) hl hg ?_
    · obtain ⟨cell0, g1, g2⟩ := R.2.2.1 a hlt
      cases q1.symm.trans g1
      simpa [Cell.setSlot] using g2
    · unfold gC
      rw [hk, if_pos f2]
      refine ⟨r, f1, h2, t_OB.to (V := updV (fun k => gF G I J P a k (gTy ci k)) j (gV G v)) ⟨_, e1, q2, q3, t_set q4 hap f3 (gV G v)⟩ (fun k _ => ?_)⟩
      by_cases ek : k = j
      · subst ek
        simp [updV, hv]
      · simp only [updV, if_neg ek]
        obtain ⟨g1, g2, g3⟩ := hs2 k ek
        unfold gF
        split <;> simp [g1, g2, g3]
    · intro z hz
      rcases List.mem_append.mp hz with q | q
      · exact hq z q
      · rw [List.mem_singleton.mp q]
        show gB G ≤ gAd G a
        omega
  have hlay := hts _ (hin _ (u_in_lay f3))
  unfold u_lay at hlay
  cases hb2 : (r.2.1 j).2.2.2 with
  | false =>
    rw [if_neg (by rw [hb2]; decide)] at hlay
    have h6 := u_store hfc hkC hkind hlay hi (clTy ci _ f1 j f3) hn hfit
    exact W.putK hx hb (f := f) ⟨hown, hts _ f4, ⟨_, _, _, hi⟩, hst⟩ (a := gAd G a) (by rw [q2]; exact h6) (by rw [had]; exact q1) q3 (by rw [hsl]; exact k2_hasslot (q4 j f3)) rfl rfl hd (fun H' e1 e2 e3 => key H' (by rw [← had]; exact e1) e2 (by rw [← had]; exact e3))
  | true =>
    rw [if_pos hb2] at hlay
    rcases hfin with q | ⟨hin2, hdecl⟩
    · rw [hb2] at q; cases q
    have hcf : m.cls = cf := by
      obtain ⟨_, _, c', _, _, _, -, -, hf', -, -, -, hown2, -⟩ := Cond.laysFinal_spec hlay
      have e1 : c' = cf := by have := hi.symm.trans hf'; simp at this; exact this.1.symm
      rw [hdecl] at hown2
      rw [← e1]; exact Option.some.inj (hown.symm.trans hown2)
    have h6 := u_fits hfc hkC hkind (Or.inr hlay) hi (clTy ci _ f1 j f3) hn hfit
    exact W.putFinK hx hb hown (hts _ f4) hi hst hcf (hnm.trans hin2) (a := gAd G a) (by rw [q2]; exact h6) (by rw [had]; exact q1) q3 (by rw [hsl]; exact k2_hasslot (q4 j f3)) rfl rfl hd (fun H' e1 e2 e3 => key H' (by rw [← had]; exact e1) e2 (by rw [← had]; exact e3))
theorem ok_putI {ci j idx a : Nat} {q : vw_C} {x : Int32} (hd : decode M.2.1 pc = .ok (.putfield idx, 3)) (hF : FI M.1.cls idx ci j q) (hfin : (q.2.1 j).2.2.2 = false ∨ (M.1.name = "<init>" ∧ (q.2.1 j).1 = M.1.cls)) (ht : gTy ci j = .int ∨ (gTy ci j = .boolean ∧ (x = 0 ∨ x = 1)))
    (h : (K a).1 = ci ∧ Ok G d M (pc + 3) L st (u2 I a j x) J P K n Q) : Ok G d M pc L (.int x :: .ref a :: st) I J P K n Q := by
  refine ok_putf hd hF h.1 hfin ?_ ?_ (fun b k hb => ⟨u2_a I j k x hb, rfl, rfl⟩) (fun k hk => ⟨u2_k I a a x hk, rfl, rfl⟩) ?_ h.2
  · rcases ht with e | ⟨e, e2⟩
    · rw [e]; rfl
    · rw [e]; rcases e2 with e2 | e2 <;> subst e2 <;> rw [gV_int] <;> decide
  · rcases ht with e | ⟨e, e2⟩
    · rw [e]; rfl
    · rw [e]; rcases e2 with e2 | e2 <;> subst e2 <;> rw [gV_int] <;> decide
  · rcases ht with e | ⟨e, e2⟩ <;> rw [e] <;> simp [gF, gV, u2_s]
theorem ok_putJ {ci j idx a : Nat} {q : vw_C} {x : Int64} (hd : decode M.2.1 pc = .ok (.putfield idx, 3)) (hF : FI M.1.cls idx ci j q) (hfin : (q.2.1 j).2.2.2 = false ∨ (M.1.name = "<init>" ∧ (q.2.1 j).1 = M.1.cls)) (ht : gTy ci j = .long)
    (h : (K a).1 = ci ∧ Ok G d M (pc + 3) L st I (u2 J a j x) P K n Q) : Ok G d M pc L (.long x :: .ref a :: st) I J P K n Q := by
  refine ok_putf hd hF h.1 hfin ?_ ?_ (fun b k hb => ⟨rfl, u2_a J j k x hb, rfl⟩) (fun k hk => ⟨rfl, u2_k J a a x hk, rfl⟩) ?_ h.2
  · rw [ht]; rfl
  · rw [ht]; rfl
  · rw [ht]; simp [gF, gV, u2_s]
theorem ok_putP {ci j idx a b : Nat} {q : vw_C} (hd : decode M.2.1 pc = .ok (.putfield idx, 3)) (hF : FI M.1.cls idx ci j q) (hfin : (q.2.1 j).2.2.2 = false ∨ (M.1.name = "<init>" ∧ (q.2.1 j).1 = M.1.cls)) (ht : tyRef (gTy ci j) = true)
    (h : (K a).1 = ci ∧ Ok G d M (pc + 3) L st I J (u2 P a j (some b)) K n Q) : Ok G d M pc L (.ref b :: .ref a :: st) I J P K n Q := by
  refine ok_putf hd hF h.1 hfin ?_ ?_ (fun b' k hb => ⟨rfl, rfl, u2_a P j k (some b) hb⟩) (fun k hk => ⟨rfl, rfl, u2_k P a a (some b) hk⟩) ?_ h.2
  · cases hc : gTy ci j <;> rw [hc] at ht <;> first | rfl | cases ht
  · cases hc : gTy ci j <;> rw [hc] at ht <;> first | rfl | cases ht
  · rw [gF_ref ht, u2_s]; rfl
theorem ok_putN {ci j idx a : Nat} {q : vw_C} (hd : decode M.2.1 pc = .ok (.putfield idx, 3)) (hF : FI M.1.cls idx ci j q) (hfin : (q.2.1 j).2.2.2 = false ∨ (M.1.name = "<init>" ∧ (q.2.1 j).1 = M.1.cls)) (ht : tyRef (gTy ci j) = true)
    (h : (K a).1 = ci ∧ Ok G d M (pc + 3) L st I J (u2 P a j none) K n Q) : Ok G d M pc L (.null :: .ref a :: st) I J P K n Q := by
  refine ok_putf hd hF h.1 hfin ?_ ?_ (fun b' k hb => ⟨rfl, rfl, u2_a P j k none hb⟩) (fun k hk => ⟨rfl, rfl, u2_k P a a none hk⟩) ?_ h.2
  · cases hc : gTy ci j <;> rw [hc] at ht <;> first | rfl | cases ht
  · cases hc : gTy ci j <;> rw [hc] at ht <;> first | rfl | cases ht
  · rw [gF_ref ht, u2_s]; rfl
end OkMem
