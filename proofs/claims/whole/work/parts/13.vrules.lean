section VRules
variable {G : gG} {d : Nat} {M : gM} {pc : Nat} {L : List (Option Value)} {st : List Value} {I I' : sI} {J J' : sJ} {P P' : sP} {K : sK} {n : Nat} {Q Q' : gQ}
theorem ok_istore_nV {k : Fin 4} {x : Int32} (L' : List (Option Value)) (hd : decode M.2.1 pc = .ok (.istore_n k, 1)) (hi : (k : Nat) < M.2.2.1) (he : st1 L (k : Nat) (.int x) = L') (h : Ok G d M (pc + 1) L' st I J P K n Q) : Ok G d M pc L (.int x :: st) I J P K n Q := by
  subst he; exact ok_istore_n hd hi h
theorem ok_istoreV {k : Nat} {x : Int32} (L' : List (Option Value)) (hd : decode M.2.1 pc = .ok (.istore k, 2)) (hi : k < M.2.2.1) (he : st1 L k (.int x) = L') (h : Ok G d M (pc + 2) L' st I J P K n Q) : Ok G d M pc L (.int x :: st) I J P K n Q := by
  subst he; exact ok_istore hd hi h
theorem ok_astore_nV {k : Fin 4} {x : Nat} (L' : List (Option Value)) (hd : decode M.2.1 pc = .ok (.astore_n k, 1)) (hi : (k : Nat) < M.2.2.1) (he : st1 L (k : Nat) (.ref x) = L') (h : Ok G d M (pc + 1) L' st I J P K n Q) : Ok G d M pc L (.ref x :: st) I J P K n Q := by
  subst he; exact ok_astore_n hd hi h
theorem ok_astore_nNV {k : Fin 4} (L' : List (Option Value)) (hd : decode M.2.1 pc = .ok (.astore_n k, 1)) (hi : (k : Nat) < M.2.2.1) (he : st1 L (k : Nat) .null = L') (h : Ok G d M (pc + 1) L' st I J P K n Q) : Ok G d M pc L (.null :: st) I J P K n Q := by
  subst he; exact ok_astore_nN hd hi h
theorem ok_astoreV {k : Nat} {x : Nat} (L' : List (Option Value)) (hd : decode M.2.1 pc = .ok (.astore k, 2)) (hi : k < M.2.2.1) (he : st1 L k (.ref x) = L') (h : Ok G d M (pc + 2) L' st I J P K n Q) : Ok G d M pc L (.ref x :: st) I J P K n Q := by
  subst he; exact ok_astore hd hi h
theorem ok_lstore_nV {k : Fin 4} {x : Int64} (L' : List (Option Value)) (hd : decode M.2.1 pc = .ok (.lstore_n k, 1)) (hi : (k : Nat) + 1 < M.2.2.1) (he : st2 L (k : Nat) (.long x) = L') (h : Ok G d M (pc + 1) L' st I J P K n Q) : Ok G d M pc L (.long x :: st) I J P K n Q := by
  subst he; exact ok_lstore_n hd hi h
theorem ok_lstoreV {k : Nat} {x : Int64} (L' : List (Option Value)) (hd : decode M.2.1 pc = .ok (.lstore k, 2)) (hi : k + 1 < M.2.2.1) (he : st2 L k (.long x) = L') (h : Ok G d M (pc + 2) L' st I J P K n Q) : Ok G d M pc L (.long x :: st) I J P K n Q := by
  subst he; exact ok_lstore hd hi h
theorem ok_iincW {k : Nat} {z : Int} {x : Int32} (v : Int32) (L' : List (Option Value)) (hd : decode M.2.1 pc = .ok (.iinc k z, 3)) (hi : k < M.2.2.1) (hl : L[k]? = some (some (.int x))) (he : x + Int32.ofInt z = v) (hL : st1 L k (.int v) = L') (h : Ok G d M (pc + 3) L' st I J P K n Q) : Ok G d M pc L st I J P K n Q := by
  subst hL; exact ok_iincV v hd hi hl he h
theorem ok_getPV {ci j idx a b : Nat} {q : vw_C} (hd : decode M.2.1 pc = .ok (.getfield idx, 3)) (hF : FI M.1.cls idx ci j q) (ht : tyRef (gTy ci j) = true) (hk : (K a).1 = ci) (hp : P a j = some b) (h : Ok G d M (pc + 3) L (.ref b :: st) I J P K n Q) : Ok G d M pc L (.ref a :: st) I J P K n Q :=
  ok_getP hd hF ht ⟨hk, b, hp, h⟩
theorem ok_ialoadV {a len : Nat} {i : Int32} (v : Int32) (hk : K a = (13, len)) (hd : decode M.2.1 pc = .ok (.iaload, 1)) (hi : vp_in i len) (he : I a i.toNatClampNeg = v) (h : Ok G d M (pc + 1) L (.int v :: st) I J P K n Q) : Ok G d M pc L (.int i :: .ref a :: st) I J P K n Q := by
  subst he; exact ok_iaload hd ⟨by rw [hk], by rw [hk]; exact hi, h⟩
theorem ok_laloadV {a len : Nat} {i : Int32} (v : Int64) (hk : K a = (14, len)) (hd : decode M.2.1 pc = .ok (.laload, 1)) (hi : vp_in i len) (he : J a i.toNatClampNeg = v) (h : Ok G d M (pc + 1) L (.long v :: st) I J P K n Q) : Ok G d M pc L (.int i :: .ref a :: st) I J P K n Q := by
  subst he; exact ok_laload hd ⟨by rw [hk], by rw [hk]; exact hi, h⟩
theorem ok_baloadV {a len : Nat} {i : Int32} (v : Int32) (hk : K a = (15, len)) (hd : decode M.2.1 pc = .ok (.baload, 1)) (hi : vp_in i len) (he : I a i.toNatClampNeg = v) (h : Ok G d M (pc + 1) L (.int v :: st) I J P K n Q) : Ok G d M pc L (.int i :: .ref a :: st) I J P K n Q := by
  subst he; exact ok_baload hd ⟨by rw [hk], by rw [hk]; exact hi, h⟩
theorem ok_aaloadV {a b len : Nat} {i : Int32} (hk : K a = (18, len)) (hd : decode M.2.1 pc = .ok (.aaload, 1)) (hi : vp_in i len) (hp : P a i.toNatClampNeg = some b) (h : Ok G d M (pc + 1) L (.ref b :: st) I J P K n Q) : Ok G d M pc L (.int i :: .ref a :: st) I J P K n Q :=
  ok_aaload hd ⟨by rw [hk], by rw [hk]; exact hi, b, hp, h⟩
theorem ok_iastoreV {a len : Nat} {i x : Int32} (k : Nat) (hk : K a = (13, len)) (hd : decode M.2.1 pc = .ok (.iastore, 1)) (hi : vp_in i len) (he : i.toNatClampNeg = k) (h : Ok G d M (pc + 1) L st (u2 I a k x) J P K n Q) : Ok G d M pc L (.int x :: .int i :: .ref a :: st) I J P K n Q := by
  subst he; exact ok_iastore hd ⟨by rw [hk], by rw [hk]; exact hi, h⟩
theorem ok_lastoreV {a len : Nat} {i : Int32} {x : Int64} (k : Nat) (hk : K a = (14, len)) (hd : decode M.2.1 pc = .ok (.lastore, 1)) (hi : vp_in i len) (he : i.toNatClampNeg = k) (h : Ok G d M (pc + 1) L st I (u2 J a k x) P K n Q) : Ok G d M pc L (.long x :: .int i :: .ref a :: st) I J P K n Q := by
  subst he; exact ok_lastore hd ⟨by rw [hk], by rw [hk]; exact hi, h⟩
theorem ok_bastoreV {a len : Nat} {i : Int32} (hk : K a = (15, len)) (hd : decode M.2.1 pc = .ok (.bastore, 1)) (hi : vp_in i len) (h : Ok G d M (pc + 1) L st (u2 I a i.toNatClampNeg 1) J P K n Q) : Ok G d M pc L (.int 1 :: .int i :: .ref a :: st) I J P K n Q :=
  ok_bastore1 hd ⟨by rw [hk], by rw [hk]; exact hi, h⟩
theorem ok_alenV {a len : Nat} (v : Int32) (hk : K a = (13, len)) (hd : decode M.2.1 pc = .ok (.arraylength, 1)) (he : nI len = v) (h : Ok G d M (pc + 1) L (.int v :: st) I J P K n Q) : Ok G d M pc L (.ref a :: st) I J P K n Q := by
  subst he; exact ok_alen hd ⟨by rw [hk], by rw [hk]; exact h⟩
theorem nar_b {v : Int32} (h : v = 0 ∨ v = 1) : narrow .boolean (.int v) = .int v := by rcases h with e | e <;> subst e <;> decide
end VRules
section VRules2
variable {G : gG} {d : Nat} {M : gM} {pc : Nat} {L : List (Option Value)} {st : List Value} {I I' : sI} {J J' : sJ} {P P' : sP} {K : sK} {n : Nat} {Q Q' : gQ}
theorem lsw_out : ∀ (ps : List (Int × Int)) (dflt : Int) (x : Int32) (ws : List Int32), (∀ v ∈ ws, x ≠ v) → ps.all (fun q => ws.any (fun v => decide (v.toInt = q.1))) = true → Op.lookupswitch.offset ps dflt x.toInt = dflt := by
  intro ps dflt x ws hn
  induction ps with
  | nil => intro _; rfl
  | cons q r ih =>
    intro hw
    obtain ⟨a, o⟩ := q
    rw [List.all_cons, Bool.and_eq_true] at hw
    obtain ⟨v, hv, he⟩ := List.any_eq_true.mp hw.1
    have he := of_decide_eq_true he
    show (if a = x.toInt then o else Op.lookupswitch.offset r dflt x.toInt) = dflt
    rw [if_neg (fun e => hn v hv (Int32.toInt_inj.mp (he.trans e).symm)), ih hw.2]
theorem ok_lswI {dflt : Int} {ps : Array (Int × Int)} {len : Nat} {x : Int32} {off : Int} (tgt : Nat) (v : Int32) (hd : decode M.2.1 pc = .ok (.lookupswitch dflt ps, len)) (hx : x = v) (hp : (ps.toList.zip (ps.toList.drop 1)).all (fun (a, next) => a.1 < next.1) = true) (ho : Op.lookupswitch.offset ps.toList dflt v.toInt = off) (ht : (pc : Int) + off = (tgt : Int)) (h : Ok G d M tgt L st I J P K n Q) : Ok G d M pc L (.int x :: st) I J P K n Q := by
  subst hx; exact ok_lsw tgt hd hp ho ht h
theorem ok_lswD {dflt : Int} {ps : Array (Int × Int)} {len : Nat} {x : Int32} (tgt : Nat) (ws : List Int32) (hd : decode M.2.1 pc = .ok (.lookupswitch dflt ps, len)) (hn : ∀ v ∈ ws, x ≠ v) (hp : (ps.toList.zip (ps.toList.drop 1)).all (fun (a, next) => a.1 < next.1) = true) (hw : ps.toList.all (fun q => ws.any (fun v => decide (v.toInt = q.1))) = true) (ht : (pc : Int) + dflt = (tgt : Int)) (h : Ok G d M tgt L st I J P K n Q) : Ok G d M pc L (.int x :: st) I J P K n Q :=
  ok_lsw tgt hd hp (lsw_out ps.toList dflt x ws hn hw) ht h
theorem obj_w1 : Cond.instanceMethod Lib.objectInit ∈ tbG := tbm 31 (by decide +kernel) rfl
theorem obj_w2 : Cond.code Lib.objectInit ⟨#[0xb1]⟩ 1 none ∈ tbG := tbm 32 (by decide +kernel) rfl
theorem ok_objInit {idx a : Nat} (hd : decode M.2.1 pc = .ok (.invokespecial idx, 3)) (w1 : Cond.methodLink M.1.cls idx Lib.objectInit ∈ tbG) (hcat : (st.map fun v => v.category).sum ≤ 8) (h : Ok G (d + 1) M (pc + 3) L st I J P K n Q) : Ok G (d + 1) M pc L (.ref a :: st) I J P K n Q := by
  intro p e s m args below meth c ls H locs n0 K0 C R hl hg hq
  obtain ⟨hx, hb, hml, hret, hown, hts, hlk, hnm, hK, hsz, hxt⟩ := id C
  have hcat2 : ((st.map (gV G)).map fun v => v.category).sum ≤ 8 := by rw [List.map_map, show (fun v => v.category) ∘ gV G = fun v => v.category from funext (gV_cat G)]; exact hcat
  have hr := lv_room (m := m) (pc := pc) (ls := ls) (rest := (.ref a :: st).map (gV G)) hcat2
  refine W.objInit hx hb hown (hts _ w1) (hts _ obj_w1) (hts _ obj_w2) rfl (by rw [hml]; exact hl.1) (a := gAd G a) (rest := st.map (gV G)) rfl hd (by show 1 ≤ d + 1; omega) ?_ (h p e s m args below meth c ls H locs n0 K0 C R hl hg hq)
  show _ ≤ 64 * (d + 1)
  omega
theorem ok_newaI {x : Int32} (hd : decode M.2.1 pc = .ok (.newarray .int, 2)) (N : Nat) (w1 : Cond.arrayClass .int ∈ tbG) (c : ¬ x < 0 ∧ x.toNatClampNeg = N ∧ N * 4 ≤ 536870912) (h : n + 1 ≤ 601024 ∧ gS K n + N ≤ 7293034 ∧ Ok G d M (pc + 2) L (.ref n :: st) (z2 I n 0) (z2 J n 0) (z2 P n none) (u1 K n (13, N)) (n + 1) Q) : Ok G d M pc L (.int x :: st) I J P K n Q := by
  obtain ⟨c1, c2, c3⟩ := c
  subst c2
  exact ok_newa (t := 0) (ty := .int) rfl rfl (by decide) (fun U cA h => h) (fun a j => by unfold gE; simp [z2_s]; rfl) hd w1 ⟨c1, c3, h.1, h.2.1, h.2.2⟩
theorem ok_newaJ {x : Int32} (hd : decode M.2.1 pc = .ok (.newarray .long, 2)) (N : Nat) (w1 : Cond.arrayClass .long ∈ tbG) (c : ¬ x < 0 ∧ x.toNatClampNeg = N ∧ N * 8 ≤ 536870912) (h : n + 1 ≤ 601024 ∧ gS K n + N ≤ 7293034 ∧ Ok G d M (pc + 2) L (.ref n :: st) (z2 I n 0) (z2 J n 0) (z2 P n none) (u1 K n (14, N)) (n + 1) Q) : Ok G d M pc L (.int x :: st) I J P K n Q := by
  obtain ⟨c1, c2, c3⟩ := c
  subst c2
  exact ok_newa (t := 1) (ty := .long) rfl rfl (by decide) (fun U cA h => h) (fun a j => by unfold gE; simp [z2_s]; rfl) hd w1 ⟨c1, c3, h.1, h.2.1, h.2.2⟩
theorem ok_newaZ {x : Int32} (hd : decode M.2.1 pc = .ok (.newarray .boolean, 2)) (N : Nat) (w1 : Cond.arrayClass .boolean ∈ tbG) (c : ¬ x < 0 ∧ x.toNatClampNeg = N ∧ N * 1 ≤ 536870912) (h : n + 1 ≤ 601024 ∧ gS K n + N ≤ 7293034 ∧ Ok G d M (pc + 2) L (.ref n :: st) (z2 I n 0) (z2 J n 0) (z2 P n none) (u1 K n (15, N)) (n + 1) Q) : Ok G d M pc L (.int x :: st) I J P K n Q := by
  obtain ⟨c1, c2, c3⟩ := c
  subst c2
  exact ok_newa (t := 2) (ty := .boolean) rfl rfl (by decide) (fun U cA h => h) (fun a j => by unfold gE; simp [z2_s]; rfl) hd w1 ⟨c1, c3, h.1, h.2.1, h.2.2⟩
end VRules2
