section OkSpec2
variable {G : gG} {d : Nat} {M : gM} {pc : Nat} {L : List (Option Value)} {st : List Value} {I I' : sI} {J J' : sJ} {P P' : sP} {K : sK} {n : Nat} {Q Q' : gQ}
theorem ac_int : Cond.arrayClass .int ∈ tbG := tbm 88 (by decide +kernel) rfl
theorem xtm (i : Nat) {w : Cond} (h : tables_1[i]? = some w) (hg : xtK w = true) : w ∈ xtG := List.mem_filter.mpr ⟨List.mem_append_right _ (List.mem_of_getElem? h), hg⟩
theorem ok_anew {idx t : Nat} {x : Int32} {C : String} (N : Nat) (ht : (gTys G)[t]? = some (G.2.2.2.1 t, .object C)) (h36 : 3 ≤ t ∧ t < 6) (hd : decode M.2.1 pc = .ok (.anewarray idx, 3)) (w1 : Cond.classLink M.1.cls idx C ∈ tbG) (w2 : Cond.arrayOver (.object C) ∈ xtG) (cx : ¬ x < 0 ∧ x.toNatClampNeg = N ∧ N * 4 ≤ 536870912)
    (h : n + 1 ≤ 601024 ∧ gS K n + N ≤ 7293034 ∧ Ok G d M (pc + 3) L (.ref n :: st) (z2 I n 0) (z2 J n 0) (z2 P n none) (u1 K n (13 + t, N)) (n + 1) Q) : Ok G d M pc L (.int x :: st) I J P K n Q := by
  intro p e s m args below meth c ls H locs n0 K0 C' R hl hg hq
  obtain ⟨b1, b2, b3⟩ := cx
  obtain ⟨c1, c2, h3⟩ := h
  subst b2
  obtain ⟨hx, hb, hml, hret, hown, hts, hlk, hnm, hK, hsz, hxt⟩ := id C'
  have hS0 : gS K n0 = gS K0 n0 := gS_congr hg.2
  have hmo : gS K n0 ≤ gS K n := gS_mono hg.1
  have had : gAd G n = H.size := by rw [R.1]; unfold gAd; rw [if_pos (by omega)]
  refine W.anew hx hb hown (hts _ w1) (va_AO.use (hxt.1 _ w2)) rfl hd rfl b1 b3 (by show n - n0 + 1 ≤ 601024 - n0; omega) (by show gS K n - gS K n0 + x.toNatClampNeg ≤ 7293034 - gS K0 n0; omega) fun cA kA comp f1 f2 f3 f4 => ?_
  have hcA : cA = G.2.2.2.1 t := by
    obtain ⟨kA', comp', g1, g2, g3, g4⟩ := (hK.2 t _ ht).2
    exact Option.some.inj (f1.symm.trans g4)
  subst hcA
  have R1 := R.1
  have key := h3 p e s m args below meth c ls _ locs n0 K0 C' (rep_new (H' := H.push { cls := G.2.2.2.1 t, slots := Array.replicate x.toNatClampNeg .null, vm := .none }) (kd := 13 + t) R (Array.size_push _) (fun q hq => Array.getElem?_push_lt hq ▸ (by simp [hq])) ⟨{ cls := G.2.2.2.1 t, slots := Array.replicate x.toNatClampNeg .null, vm := .none }, by rw [← R1]; simp, by simp⟩ (by
    unfold gC
    rw [if_neg (by show ¬ 13 + t < 13; omega), if_pos (by show 13 + t < 19; omega), ← R1]
    rw [Array.getElem?_push_size, arrV_new]
    show _ = some (arrV (G.2.2.2.1 (13 + t - 13)) x.toNatClampNeg (fun j => gE G (z2 I n 0) (z2 J n 0) (z2 P n none) n j (13 + t - 13)))
    rw [show 13 + t - 13 = t by omega]
    refine congrArg some (congrArg (arrV _ _) (funext fun j => ?_))
    unfold gE
    rw [if_neg (by omega), if_pos h36.1, z2_s]
    rfl) c1 c2) hl (grow1 _ hg) hq
  rw [gS_new, gS_u1 _ _ hg.1, show n + 1 - n0 = n - n0 + 1 by omega, show gS K n + x.toNatClampNeg - gS K n0 = gS K n - gS K n0 + x.toNatClampNeg by omega] at key
  rw [← had]
  exact key
theorem ok_mna {idx N M2 : Nat} {x y : Int32} (hd : decode M.2.1 pc = .ok (.multianewarray idx 2, 4)) (w1 : Cond.classLink M.1.cls idx "[[I" ∈ tbG) (cx : ¬ x < 0 ∧ x.toNatClampNeg = N ∧ ¬ y < 0 ∧ y.toNatClampNeg = M2 ∧ N ≤ 1000 ∧ M2 ≤ 1000)
    (h : n + (N + 1) ≤ 601024 ∧ gS K n + (N + N * M2) ≤ 7293034 ∧ Ok G d M (pc + 4) L (.ref n :: st) (zr I n N 0) (zr J n N 0) (mnP P n N) (mnK K n N M2) (n + (N + 1)) Q) : Ok G d M pc L (.int y :: .int x :: st) I J P K n Q := by
  intro p e s m args below meth c ls H locs n0 K0 C' R hl hg hq
  obtain ⟨b1, b2, b3, b4, b5, b6⟩ := cx
  obtain ⟨c1, c2, h3⟩ := h
  obtain ⟨hx, hb, hml, hret, hown, hts, hlk, hnm, hK, hsz, hxt⟩ := id C'
  have hS0 : gS K n0 = gS K0 n0 := gS_congr hg.2
  have hmo : gS K n0 ≤ gS K n := gS_mono hg.1
  have R1 := R.1
  have had : gAd G n = H.size := by rw [R.1]; unfold gAd; rw [if_pos (by omega)]
  have hov : (Cond.arrayOver (.array .int)).before args s = true   := hxt.1 (Cond.arrayOver (.array .int)) (xtm 119 (by decide +kernel) rfl)
  intro T hT X
  obtain ⟨vm₁, cA, comp, hW, fA, fC, hO, hIn, X', step⟩ := X.multianewarray2F (ty := .int) hx hown (hts _ w1) hov (hts _ ac_int) (g := F0 m pc ls ((.int y :: .int x :: st).map (gV G))) rfl (by rw [hb]; exact hd) (n := x) (k := y) (rest := st.map (gV G)) rfl b1 b3 (by omega) (by rw [b4]; show M2 * 4 ≤ _; omega) (by omega) rfl rfl (by show n - n0 + _ ≤ 601024 - n0; omega) (by rw [b2, b4]; show gS K n - gS K n0 + (N + N * M2) ≤ 7293034 - gS K0 n0; omega)
  rw [b2, b4] at X' step
  have eA : cA = G.2.2.2.1 5 := Option.some.inj (fA.symm.trans (hK.2 5 _ rfl).2)
  have eC : comp = G.2.2.2.1 0 := Option.some.inj (fC.symm.trans (hK.2 0 _ rfl).2)
  subst eA; subst eC
  have hTs : (T.setVm vm₁).heap.size = gB G + n := by show T.heap.size = _; rw [hT, R1]
  have ff := Jvm.Free.Multi.fill_facts (T.setVm vm₁) (G.2.2.2.1 5) (G.2.2.2.1 0) N M2 (defaultValue .int) N
  have fo := fun {a : Nat} (ha : a < (T.setVm vm₁).heap.size) => Jvm.Free.Multi.fill_old (T.setVm vm₁) (G.2.2.2.1 5) (G.2.2.2.1 0) N M2 (defaultValue .int) ha N
  have fi := Jvm.Free.Multi.fill_inner (T.setVm vm₁) (G.2.2.2.1 5) (G.2.2.2.1 0) N M2 (defaultValue .int) N
  generalize Jvm.Free.Multi.fill (T.setVm vm₁) (G.2.2.2.1 5) (G.2.2.2.1 0) N M2 (defaultValue .int) N = T2 at X' step ff fo fi
  have f1 : T2.heap.size = gB G + n + 1 + N := by rw [ff.1, hTs]
  have f2 : T2.heap[gB G + n]? = some (arrV (G.2.2.2.1 5) N (fun j => if j < N then .ref (gB G + n + 1 + j) else .null)) := by rw [← hTs, ff.2.1, outer_eq]
  have f3 : ∀ a : Nat, a < gB G + n → T2.heap[a]? = H[a]? := fun a ha => by
    have := fo (a := a) (by rw [hTs]; exact ha)
    rw [this]; show T.heap[a]? = _; rw [hT]
  have f4 : ∀ j, j < N → T2.heap[gB G + (n + 1 + j)]? = some (arrV (G.2.2.2.1 0) M2 (fun _ => .int 0)) := fun j hj => by
    have := fi j hj
    rw [hTs] at this
    rw [show gB G + (n + 1 + j) = gB G + n + 1 + j by omega, this]
    unfold Jvm.Free.Multi.innerC
    rw [arrV_new]
    rfl
  have hmn : ∀ a, a < n → mnK K n N M2 a = K a := fun a ha => by simp only [mnK]; rw [if_neg (by omega), if_neg (by omega)]
  have R2 : Rep G (zr I n N 0) (zr J n N 0) (mnP P n N) (mnK K n N M2) (n + (N + 1)) T2.heap := by
    refine ⟨by omega, fun q hq => (f3 q (by omega)).trans (R.2.1 q hq), fun b hb => ?_, fun b hb => ?_, fun a ha => ?_, c1, ?_⟩
    · rcases Nat.lt_trichotomy b n with q | q | q
      · rw [hmn b q]
        obtain ⟨cell, h1, h2⟩ := R.2.2.1 b q
        exact ⟨cell, (f3 _ (by omega)).trans h1, h2⟩
      · subst q
        exact ⟨_, f2, by rw [arrV_size]; simp [mnK]⟩
      · obtain ⟨j, rfl⟩ : ∃ j, b = n + 1 + j := ⟨b - (n + 1), by omega⟩
        refine ⟨_, f4 j (by omega), ?_⟩
        rw [arrV_size]
        simp only [mnK]
        rw [if_neg (by omega), if_pos (by omega)]
    · rcases Nat.lt_trichotomy b n with q | q | q
      · rw [hmn b q]
        have h := R.2.2.2.1 b q
        have hh : T2.heap[gB G + b]? = H[gB G + b]? := f3 _ (by omega)
        have hI : ∀ k, zr I n N 0 b k = I b k := fun k => by simp only [zr]; rw [if_neg (by omega)]
        have hJ : ∀ k, zr J n N 0 b k = J b k := fun k => by simp only [zr]; rw [if_neg (by omega)]
        have hP : ∀ k, mnP P n N b k = P b k := fun k => by simp only [mnP]; rw [if_neg (by omega), if_neg (by omega)]
        unfold gC at h ⊢
        split
        · rename_i q
          rw [if_pos q] at h
          obtain ⟨r, h1, h2, h3⟩ := h
          refine ⟨r, h1, h2, (h3.kept hh).to (fun k _ => ?_)⟩
          unfold gF
          split <;> simp [hI, hJ, hP]
        · rename_i q
          rw [if_neg q] at h
          split
          · rename_i q2
            rw [if_pos q2] at h
            rw [hh, h]
            refine congrArg some (congrArg (arrV _ _) (funext fun j => ?_))
            unfold gE
            simp [hI, hJ, hP]
          · trivial
      · subst q
        have hk : mnK K b N M2 b = (18, N) := by simp [mnK]
        rw [hk]
        unfold gC
        rw [if_neg (show ¬ (18 : Nat) < 13 by decide), if_pos (show (18 : Nat) < 19 by decide), f2]
        refine congrArg some (congrArg (arrV _ _) (funext fun j => ?_))
        have eG : gE G (zr I b N 0) (zr J b N 0) (mnP P b N) b j 5 = gR G (if j < N then some (b + 1 + j) else none) := by
          unfold gE
          rw [if_neg (show ¬ (5 : Nat) = 1 by decide), if_pos (show 3 ≤ (5 : Nat) by decide)]
          simp [mnP]
        show _ = gE G _ _ _ b j 5
        rw [eG]
        by_cases hj : j < N
        · rw [if_pos hj, if_pos hj]
          show _ = Value.ref (gAd G (b + 1 + j))
          unfold gAd
          rw [if_pos (by omega)]
          congr 1
          show G.2.1.size + b + 1 + j = G.2.1.size + (b + 1 + j)
          omega
        · rw [if_neg hj, if_neg hj]
          rfl
      · obtain ⟨j, rfl⟩ : ∃ j, b = n + 1 + j := ⟨b - (n + 1), by omega⟩
        have hk : mnK K n N M2 (n + 1 + j) = (13, M2) := by simp only [mnK]; rw [if_neg (by omega), if_pos (by omega)]
        rw [hk]
        unfold gC
        rw [if_neg (show ¬ (13 : Nat) < 13 by decide), if_pos (show (13 : Nat) < 19 by decide), f4 j (by omega)]
        refine congrArg some (congrArg (arrV _ _) (funext fun i => ?_))
        show _ = gE G _ _ _ _ _ 0
        unfold gE
        rw [if_neg (by decide), if_neg (by decide)]
        simp only [zr]
        rw [if_pos (by omega)]
    · simp only [mnK]
      rw [if_neg (by omega), if_neg (by omega)]
      exact R.2.2.2.2.1 a (by omega)
    · rw [show n + (N + 1) = n + 1 + N by omega, gS_mn K n N M2 N (Nat.le_refl _)]
      omega
  have hgr : n0 ≤ n + (N + 1) ∧ ∀ a, a < n0 → mnK K n N M2 a = K0 a := ⟨by omega, fun a ha => (hmn a (by omega)).trans (hg.2 a ha)⟩
  have hdrop := gS_drop R2 (n + (N + 1) - n0) n0 (by omega)
  have hmo2 : gS (mnK K n N M2) n0 ≤ gS (mnK K n N M2) (n + (N + 1)) := gS_mono hgr.1
  obtain ⟨t, a1, q1⟩ := h3 p e s m args below meth c ls T2.heap locs n0 K0 C' R2 hl hgr hq T2 rfl (stand_tight X' (by rw [f1, hsz]; omega) (by rw [hsz]; omega))
  refine ⟨t, step t ?_, q1⟩
  have e0 : T.heap.size = gAd G n := by rw [had, hT]
  rw [e0]
  exact a1
/-- what a callee must be, at a nest mate's entry -/
theorem callN_ok {p : Program} {s : State} {m : MethodId} {args : Array Value} {meth : Method} {c : Code} {n0 : Nat} {M' : gM} {np idx d' n1 S1 n2 S2 : Nat} {host : String} (C : Cx G M p s m args meth c n0) (hM : MI M' np) (w1 : Cond.methodLinkNest M.1.cls idx M'.1 host ∈ xtG) : va_CN (gRm (d' + 1) n1 S1) s args M.1.cls idx M'.1 host M'.2.1 M'.2.2.1 M'.2.2.2 (gWs M') (gRm d' n2 S2) (601024 - n2) (7293034 - S2) np := by
  obtain ⟨m1, m2, m3, m4, m5, m6⟩ := hM
  have hts := C.2.2.2.2.2.1
  refine ⟨⟨rfl, rfl, Nat.le_refl _, by show 8 + (M'.2.2.1 + 11) + 64 * d' ≤ 64 * (d' + 1); omega, fun w hw a' U hW => ?_, List.mem_cons_self⟩, hts _ m2, hts _ m3, m5, fun sig h => ?_, va_Nw.use rfl (C.2.2.2.2.2.2.2.2.2.2.1 _ w1)⟩
  · rcases List.mem_cons.mp hw with q | q
    · subst q; exact tb_warm hts _ m2 a' U hW
    · exact tb_warm hts w q a' U hW
  · rw [h] at m6
    exact (Option.some.inj m6).symm
variable {M' : gM} {np idx ci b : Nat} {q : vw_C} {As rest : List Value} {host : String}
def LkIN (own : String) (idx : Nat) (M' : gM) (np : Nat) (host : String) : Prop := MI M' np ∧ Cond.methodLinkNest own idx M'.1 host ∈ xtG ∧ Cond.instanceMethod M'.1 ∈ tbG ∧ M'.1.name = "<init>" ∧ M'.2.2.2 = none
def LkSN (own : String) (idx : Nat) (M' : gM) (np : Nat) (host : String) : Prop := MI M' np ∧ Cond.methodLinkNest own idx M'.1 host ∈ xtG ∧ Cond.static M'.1 ∈ tbG
theorem ok_INqV (hd : decode M.2.1 pc = .ok (.invokespecial idx, 3)) (hL : LkIN M.1.cls idx M' np host) (hn : As.length = np) (hst : st = As.reverse ++ .ref b :: rest) (hcat : (rest.map fun v => v.category).sum ≤ 8) (hlen : (entV (.ref b :: As)).length ≤ M'.2.2.1)
    (h : cqV G d M' (.ref b :: As) I J P K n (fun I J P K n => Ok G (d + 1) M (pc + 3) L rest I J P K n Q)) : Ok G (d + 1) M pc L st I J P K n Q := by
  intro p e s m args below meth c ls H locs n0 K0 C R hl hg hq
  obtain ⟨hM, w1, w2, hy, hr⟩ := hL
  obtain ⟨hx, hb, hml, hret, hown, hts, hlk, hnm, hK, hsz, hxt⟩ := id C
  have hS0 : gS K n0 = gS K0 n0 := gS_congr hg.2
  have hmo : gS K n0 ≤ gS K n := gS_mono hg.1
  have c1 := R.2.2.2.2.2.1
  have c2 := R.2.2.2.2.2.2
  have cb := callN_ok (d' := d) (n1 := n0) (S1 := gS K0 n0) (n2 := n) (S2 := gS K n) C hM w1
  rw [hr] at cb
  have h2 : Ok G d M' 0 (entL M'.2.2.1 (.ref b :: As)) [] I J P K n (fun r I' J' P' K' n' => Ok G (d + 1) M (pc + 3) L (r.toList ++ rest) I' J' P' K' n' Q) := ok_mono (fun _ _ _ _ _ _ ⟨e4, h⟩ => by subst e4; exact h) h
  refine W_after C hl hg hq (a := ((.ref b :: As).map (gV G)).toArray) (va_runIN (Ts := tbG) (cc := M.2.1) (nL := M.2.2.1) (own := M.1.cls) (index := idx) (y := M'.1) (b := gAd G b) (As := As.map (gV G)) ⟨hx, hb, hml, hown, hts⟩ (ok_met hlen hM.1 h2) ⟨cb, hy, hts _ w2⟩ ⟨pc_blind, pc_at C R⟩ rfl (by rw [List.length_map]; exact hn) hl.1 (by rw [hst]; show List.map _ _ = _; rw [List.map_append, List.map_reverse]; rfl) (lv_room (cat_gV G hcat)) hd ⟨by show n - n0 + (601024 - n) ≤ 601024 - n0; omega, by show gS K n - gS K n0 + (7293034 - gS K n) ≤ 7293034 - gS K0 n0; omega⟩)
theorem ok_SNkI (hd : decode M.2.1 pc = .ok (.invokestatic idx, 3)) (hL : LkSN M.1.cls idx M' np host) (hn : As.length = np) (hst : st = As.reverse ++ rest) (hcat : (rest.map fun v => v.category).sum ≤ 8) (hlen : (entV As).length ≤ M'.2.2.1)
    (h : ckI G d M' As I J P K n (fun v I J => Ok G (d + 1) M (pc + 3) L (.int v :: rest) I J P K n Q)) : Ok G (d + 1) M pc L st I J P K n Q := by
  intro p e s m args below meth c ls H locs n0 K0 C R hl hg hq
  obtain ⟨hM, w1, w2⟩ := hL
  obtain ⟨hx, hb, hml, hret, hown, hts, hlk, hnm, hK, hsz, hxt⟩ := id C
  have hS0 : gS K n0 = gS K0 n0 := gS_congr hg.2
  have hmo : gS K n0 ≤ gS K n := gS_mono hg.1
  have c1 := R.2.2.2.2.2.1
  have c2 := R.2.2.2.2.2.2
  have cb := callN_ok (d' := d) (n1 := n0) (S1 := gS K0 n0) (n2 := n) (S2 := gS K n) C hM w1
  have h2 : Ok G d M' 0 (entL M'.2.2.1 As) [] I J P K n (fun r I' J' P' K' n' => Ok G (d + 1) M (pc + 3) L (r.toList ++ rest) I' J' P' K' n' Q) := ok_mono (fun _ _ _ _ _ _ ⟨⟨e1, e2, e3⟩, v, e4, h⟩ => by subst e1; subst e2; subst e3; subst e4; exact h) h
  refine W_after C hl hg hq (a := (As.map (gV G)).toArray) (va_runSN (Ts := tbG) (cc := M.2.1) (nL := M.2.2.1) (own := M.1.cls) (index := idx) (y := M'.1) (As := As.map (gV G)) ⟨hx, hb, hml, hown, hts⟩ (ok_met hlen hM.1 h2) ⟨cb, hts _ w2, trivial⟩ ⟨pc_blind, pc_at C R⟩ rfl (by rw [List.length_map]; exact hn) hl.1 (by rw [hst]; show List.map _ _ = _; rw [List.map_append, List.map_reverse]) (lv_room (cat_gV G hcat)) hd ⟨by show n - n0 + (601024 - n) ≤ 601024 - n0; omega, by show gS K n - gS K n0 + (7293034 - gS K n) ≤ 7293034 - gS K0 n0; omega⟩)
end OkSpec2
theorem ok_copyV {G : gG} {d : Nat} {M : gM} {pc : Nat} {L : List (Option Value)} {st : List Value} {I : sI} {J : sJ} {P : sP} {K : sK} {n : Nat} {Q : gQ} {idx a b la lb : Nat} {sp dp len : Int32} (s1 d1 l1 : Nat) (hd : decode M.2.1 pc = .ok (.invokestatic idx, 3)) (w1 : Cond.methodLink M.1.cls idx arraycopyName ∈ tbG) (hcat : (st.map fun v => v.category).sum ≤ 8) (ka : K a = (13, la)) (kb : K b = (13, lb))
    (hl : ¬ sp < 0 ∧ ¬ dp < 0 ∧ ¬ len < 0 ∧ sp.toNatClampNeg = s1 ∧ dp.toNatClampNeg = d1 ∧ len.toNatClampNeg = l1 ∧ s1 + l1 ≤ la ∧ d1 + l1 ≤ lb) (hab : a ≠ b) (h : Ok G (d + 1) M (pc + 3) L st (cpI I a b s1 d1 l1) J P K n Q) : Ok G (d + 1) M pc L (.int len :: .int dp :: .ref b :: .int sp :: .ref a :: st) I J P K n Q := by
  obtain ⟨h1, h2, h3, h4, h5, h6, h7, h8⟩ := hl
  subst h4; subst h5; subst h6
  exact ok_copy hd w1 hcat ⟨hab, by rw [ka], by rw [kb], h1, h2, h3, by rw [ka]; exact h7, by rw [kb]; exact h8, h⟩
theorem shX_R12 {P : sP} {K : sK} (h : shX P K) {i : Int32} (hi : vp_in i 4) : P 12 i.toNatClampNeg = some (13 + i.toNatClampNeg) ∧ K (13 + i.toNatClampNeg) = (13, 21) := by
  have hlt := arr_lt hi
  generalize i.toNatClampNeg = k at hlt ⊢
  match k, hlt with
  | 0, _ => exact ⟨shX_P12_0 h, shX_K13 h⟩
  | 1, _ => exact ⟨shX_P12_1 h, shX_K14 h⟩
  | 2, _ => exact ⟨shX_P12_2 h, shX_K15 h⟩
  | 3, _ => exact ⟨shX_P12_3 h, shX_K16 h⟩
section OkMath
variable {G : gG} {d : Nat} {M : gM} {pc : Nat} {L : List (Option Value)} {st : List Value} {I : sI} {J : sJ} {P : sP} {K : sK} {n : Nat} {Q : gQ}
theorem mth_0 : Cond.initialized "java/lang/Math" ∈ tbG := tbm 11 (by decide +kernel) rfl
theorem mth_min : Cond.static Lib.Math.min.name ∈ tbG ∧ Cond.code Lib.Math.min.name Lib.Math.min.code 2 (some .int) ∈ tbG := ⟨tbm 434 (by decide +kernel) rfl, tbm 435 (by decide +kernel) rfl⟩
theorem mth_max : Cond.static Lib.Math.max.name ∈ tbG ∧ Cond.code Lib.Math.max.name Lib.Math.max.code 2 (some .int) ∈ tbG := ⟨tbm 866 (by decide +kernel) rfl, tbm 867 (by decide +kernel) rfl⟩
theorem mth_abs : Cond.static Lib.Math.abs.name ∈ tbG ∧ Cond.code Lib.Math.abs.name Lib.Math.abs.code 1 (some .int) ∈ tbG := ⟨tbm 793 (by decide +kernel) rfl, tbm 794 (by decide +kernel) rfl⟩
theorem ok_mmin {idx : Nat} {x y : Int32} (hd : decode M.2.1 pc = .ok (.invokestatic idx, 3)) (w1 : Cond.methodLink M.1.cls idx Lib.Math.min.name ∈ tbG) (hcat : (st.map fun v => v.category).sum ≤ 8) (h : Ok G (d + 1) M (pc + 3) L (.int (if y < x then y else x) :: st) I J P K n Q) : Ok G (d + 1) M pc L (.int y :: .int x :: st) I J P K n Q := by
  intro p e s m args below meth c ls H locs n0 K0 C R hl hg hq
  obtain ⟨hx, hb, hml, hret, hown, hts, hlk, hnm, hK, hsz, hxt⟩ := id C
  have hS0 : gS K n0 = gS K0 n0 := gS_congr hg.2
  have c1 := R.2.2.2.2.2.1
  have c2 := R.2.2.2.2.2.2
  have hc := cat_gV G hcat
  exact va_mmin hx hb (by rw [hml]; exact hl.1.symm) hown (hts _ w1) (hts _ mth_min.1) (hts _ mth_0) (hts _ mth_min.2) (by show 1 ≤ d + 1; omega) (by show _ ≤ 64 * (d + 1); omega) (by show n - n0 ≤ 601024 - n0; omega) (by show gS K n - gS K n0 ≤ 7293034 - gS K0 n0; omega) hd (h p e s m args below meth c ls H locs n0 K0 C R hl hg hq)
theorem ok_mmax {idx : Nat} {x y : Int32} (hd : decode M.2.1 pc = .ok (.invokestatic idx, 3)) (w1 : Cond.methodLink M.1.cls idx Lib.Math.max.name ∈ tbG) (hcat : (st.map fun v => v.category).sum ≤ 8) (h : Ok G (d + 1) M (pc + 3) L (.int (if x < y then y else x) :: st) I J P K n Q) : Ok G (d + 1) M pc L (.int y :: .int x :: st) I J P K n Q := by
  intro p e s m args below meth c ls H locs n0 K0 C R hl hg hq
  obtain ⟨hx, hb, hml, hret, hown, hts, hlk, hnm, hK, hsz, hxt⟩ := id C
  have hS0 : gS K n0 = gS K0 n0 := gS_congr hg.2
  have c1 := R.2.2.2.2.2.1
  have c2 := R.2.2.2.2.2.2
  have hc := cat_gV G hcat
  exact va_mmax hx hb (by rw [hml]; exact hl.1.symm) hown (hts _ w1) (hts _ mth_max.1) (hts _ mth_0) (hts _ mth_max.2) (by show 1 ≤ d + 1; omega) (by show _ ≤ 64 * (d + 1); omega) (by show n - n0 ≤ 601024 - n0; omega) (by show gS K n - gS K n0 ≤ 7293034 - gS K0 n0; omega) hd (h p e s m args below meth c ls H locs n0 K0 C R hl hg hq)
theorem ok_mabs {idx : Nat} {x : Int32} (hd : decode M.2.1 pc = .ok (.invokestatic idx, 3)) (w1 : Cond.methodLink M.1.cls idx Lib.Math.abs.name ∈ tbG) (hcat : (st.map fun v => v.category).sum ≤ 8) (h : Ok G (d + 1) M (pc + 3) L (.int (if 0 ≤ x then x else 0 - x) :: st) I J P K n Q) : Ok G (d + 1) M pc L (.int x :: st) I J P K n Q := by
  intro p e s m args below meth c ls H locs n0 K0 C R hl hg hq
  obtain ⟨hx, hb, hml, hret, hown, hts, hlk, hnm, hK, hsz, hxt⟩ := id C
  have hS0 : gS K n0 = gS K0 n0 := gS_congr hg.2
  have c1 := R.2.2.2.2.2.1
  have c2 := R.2.2.2.2.2.2
  have hc := cat_gV G hcat
  exact va_mabs hx hb (by rw [hml]; exact hl.1.symm) hown (hts _ w1) (hts _ mth_abs.1) (hts _ mth_0) (hts _ mth_abs.2) (by show 1 ≤ d + 1; omega) (by show _ ≤ 64 * (d + 1); omega) (by show n - n0 ≤ 601024 - n0; omega) (by show gS K n - gS K n0 ≤ 7293034 - gS K0 n0; omega) hd (h p e s m args below meth c ls H locs n0 K0 C R hl hg hq)
end OkMath
