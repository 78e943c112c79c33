def entV : List Value → List (Option Value)
  | [] => []
  | v :: vs => match v with
    | .long _ => some v :: none :: entV vs
    | .double _ => some v :: none :: entV vs
    | _ => some v :: entV vs
def entL (nL : Nat) (As : List Value) : List (Option Value) := entV As ++ List.replicate (nL - (entV As).length) none
theorem entV_sl (G : gG) (As : List Value) : (lg_sl (As.map (gV G))).length = (entV As).length := by
  induction As with
  | nil => rfl
  | cons v vs ih =>
    unfold lg_sl at ih ⊢
    rw [List.map_cons, List.flatMap_cons, List.length_append, ih]
    cases v <;> simp [entV, gV, Value.category] <;> omega
theorem entV_at (G : gG) : ∀ (As : List Value) (k i : Nat) (v : Value), (entV As)[i]? = some (some v) → (k + i, gV G v) ∈ lv_args k (As.map (gV G)) := by
  intro As
  induction As with
  | nil => intro k i v h; simp [entV] at h
  | cons w vs ih =>
    intro k i v h
    have key1 : ∀ (hw : w.category = 1) (h : (some w :: entV vs)[i]? = some (some v)), (k + i, gV G v) ∈ lv_args k ((w :: vs).map (gV G)) := by
      intro hw h
      rw [List.map_cons]
      unfold lv_args
      rw [gV_cat, if_neg (by rw [hw]; decide)]
      cases i with
      | zero => cases h; exact List.mem_cons_self
      | succ i =>
        refine List.mem_cons_of_mem _ ?_
        have := ih (k + 1) i v h
        rw [show k + (i + 1) = k + 1 + i by omega]
        exact this
    have key2 : ∀ (hw : w.category = 2) (h : (some w :: none :: entV vs)[i]? = some (some v)), (k + i, gV G v) ∈ lv_args k ((w :: vs).map (gV G)) := by
      intro hw h
      rw [List.map_cons]
      unfold lv_args
      rw [gV_cat, if_pos hw]
      match i, h with
      | 0, h => cases h; exact List.mem_cons_self
      | 1, h => cases h
      | i + 2, h =>
        refine List.mem_cons_of_mem _ ?_
        have := ih (k + 2) i v h
        rw [show k + (i + 2) = k + 2 + i by omega]
        exact this
    cases w <;> first | exact key1 rfl h | exact key2 rfl h
theorem lvr_entry (G : gG) {As : List Value} {nL : Nat} (h : (entV As).length ≤ nL) : lvr G ((lg_sl (As.map (gV G)) ++ List.replicate (nL - (lg_sl (As.map (gV G))).length) Slot.unset).toArray) nL (entL nL As) := by
  have h1 := lv_entry (As.map (gV G)) (n := nL) (by rw [entV_sl]; exact h)
  refine ⟨h1.1, ?_, h1.2.1, fun i v hv => ?_⟩
  · unfold entL
    rw [List.length_append, List.length_replicate]
    omega
  · unfold entL at hv
    rcases Nat.lt_or_ge i (entV As).length with q | q
    · rw [List.getElem?_append_left q] at hv
      have := entV_at G As 0 i v hv
      rw [Nat.zero_add] at this
      exact h1.2.2 (i, gV G v) this
    · rw [List.getElem?_append_right q, List.getElem?_replicate] at hv
      split at hv <;> cases hv
def gPc (G : gG) (As : List Value) (I : sI) (J : sJ) (P : sP) (K : sK) (n : Nat) : Array Value → State → Prop := fun v U => v = (As.map (gV G)).toArray ∧ Rep G I J P K n U.heap ∧ va_K G.2.2.1 vwCl (gTys G) U ∧ xtF G U
def gWs (M : gM) : List Cond := Cond.code M.1 M.2.1 M.2.2.1 M.2.2.2 :: tbG
section OkCall
variable {G : gG} {d : Nat} {M : gM} {pc : Nat} {L : List (Option Value)} {st : List Value} {I I' : sI} {J J' : sJ} {P P' : sP} {K : sK} {n : Nat} {Q : gQ}
theorem ok_ret {ty : FieldType} {v : Int32} (hd : decode M.2.1 pc = .ok (.ireturn, 1)) (hr : M.2.2.2 = some ty) (hn : narrow ty (.int v) = .int v) (h : Q (some (.int v)) I J P K n) : Ok G d M pc L [.int v] I J P K n Q := by
  intro p e s m args below meth c ls H locs n0 K0 C R hl hg hq
  obtain ⟨hx, hb, hml, hret, hown, hts, hlk, hnm, hK, hsz, hxt⟩ := id C
  have hS0 : gS K n0 = gS K0 n0 := gS_congr hg.2
  have c1 := R.2.2.2.2.2.1
  have c2 := R.2.2.2.2.2.2
  refine W.widen (k := 601024 - n0) (n := 7293034 - gS K0 n0) (by omega) (by omega) ?_
  exact W.zret hx hb (hret.trans hr) hn (fun t ht hW => ⟨some (.int v), I, J, P, K, n, rfl, by rw [ht]; exact R, hg, h⟩) hq hd (hlocks := hlk)
theorem ok_lret {v : Int64} (hd : decode M.2.1 pc = .ok (.lreturn, 1)) (hr : M.2.2.2 = some .long) (h : Q (some (.long v)) I J P K n) : Ok G d M pc L [.long v] I J P K n Q := by
  intro p e s m args below meth c ls H locs n0 K0 C R hl hg hq
  obtain ⟨hx, hb, hml, hret, hown, hts, hlk, hnm, hK, hsz, hxt⟩ := id C
  have hS0 : gS K n0 = gS K0 n0 := gS_congr hg.2
  have c1 := R.2.2.2.2.2.1
  have c2 := R.2.2.2.2.2.2
  refine W.widen (k := 601024 - n0) (n := 7293034 - gS K0 n0) (by omega) (by omega) ?_
  exact W.lret hx hb (hret.trans hr) (fun t ht hW => ⟨some (.long v), I, J, P, K, n, rfl, by rw [ht]; exact R, hg, h⟩) hq hd (hlocks := hlk)
theorem ok_vret (hd : decode M.2.1 pc = .ok (.return_, 1)) (hr : M.2.2.2 = none) (h : Q none I J P K n) : Ok G d M pc L [] I J P K n Q := by
  intro p e s m args below meth c ls H locs n0 K0 C R hl hg hq
  obtain ⟨hx, hb, hml, hret, hown, hts, hlk, hnm, hK, hsz, hxt⟩ := id C
  have hS0 : gS K n0 = gS K0 n0 := gS_congr hg.2
  have c1 := R.2.2.2.2.2.1
  have c2 := R.2.2.2.2.2.2
  refine W.widen (k := 601024 - n0) (n := 7293034 - gS K0 n0) (by omega) (by omega) ?_
  exact W.vret hx hb (hret.trans hr) (fun t ht hW => ⟨none, I, J, P, K, n, rfl, by rw [ht]; exact R, hg, h⟩) hq hd (hlocks := hlk)
theorem ok_met {As : List Value} (hlen : (entV As).length ≤ M.2.2.1) (hpl : plainName M.1.cls = true) (h : Ok G d M 0 (entL M.2.2.1 As) [] I J P K n Q) : Met G.1 M.1 (gWs M) (gRm d n (gS K n)) (gPc G As I J P K n) (gQc G Q n K) (601024 - n) (7293034 - gS K n) (fun a => gB G ≤ a) := by
  refine Met.ofW (cc := M.2.1) (maxL := M.2.2.1) (ret := M.2.2.2) hpl rfl ?_
  intro p e s m args below meth c s₁ B hml hv
  obtain ⟨rfl, R, hK, hx⟩ := hv
  have hts := atoms_spec (ws := gWs M) B.pre
  have hin : meth.name = M.1.name := (name_of_methodNamed B.named B.method).1
  rw [lg_entry_eq]
  have key := h p e s m (As.map (gV G)).toArray below meth c _ s.heap [] n K ⟨B.exec, B.bytes, hml, B.returns, findClass_of_methodNamed B.named, fun w hw => hts w (List.mem_cons_of_mem _ hw), B.notSynchronized, hin, hK, R.1, hx⟩ R (lvr_entry G hlen) ⟨Nat.le_refl _, fun _ _ => rfl⟩ (fun q hq => absurd hq List.not_mem_nil)
  rw [Nat.sub_self, Nat.sub_self] at key
  exact key
theorem stand_tight {p : Program} {l : Launch} {e : Env} {R : Room} {s : State} {m : MethodId} {args : Array Value} {below : List Frame} {meth : Method} {c : Code} {T : State} {locs : List Loc} {c1 s1 k z : Nat} (X : Stand p l e R s m args below meth c T locs c1 s1) (hn : T.heap.size = s.heap.size + k) (hs : ((T.heap.toList.drop s.heap.size).map (·.slots.size)).sum = z) : Stand p l e R s m args below meth c T locs k z :=
  { X with same := ⟨X.same.1, X.same.2.1, Nat.le_of_eq hn, X.same.2.2.2.1, Nat.le_of_eq hs, X.same.2.2.2.2.2⟩ }
theorem W_after {p : Program} {e : Env} {s : State} {m : MethodId} {args : Array Value} {below : List Frame} {meth : Method} {c : Code} {ls : Array Slot} {H : Heap} {locs : List Loc} {n0 : Nat} {K0 : sK} (C : Cx G M p s m args meth c n0) (hv : lvr G ls M.2.2.1 L) (hg : n0 ≤ n ∧ ∀ a, a < n0 → K a = K0 a) (hq : ∀ q ∈ locs, gB G ≤ q.base) {st0 rest : List Value} {a : Array Value}
    (hr : va_Run p G.1 e (gRm d n0 (gS K0 n0)) s m args below meth c H locs (n - n0) (gS K n - gS K n0) (601024 - n) (7293034 - gS K n) (F0 m pc ls st0) (rest.map (gV G)) (gQc G (fun r I' J' P' K' n' => Ok G d M (pc + 3) L (r.toList ++ rest) I' J' P' K' n' Q) n K a) (fun a => gB G ≤ a)) :
    W p G.1 e (gRm d n0 (gS K0 n0)) s m args below meth c H locs (n - n0) (gS K n - gS K n0) (MQ below (gQc G Q n0 K0) args s (601024 - n0) (7293034 - gS K0 n0) (fun a => gB G ≤ a)) (F0 m pc ls st0) := by
  intro T hT X
  obtain ⟨v, st₀, t, T', Lc, e0, X', hL, e1, e2, ⟨r, I', J', P', K', n', ho, R', hg', hQ⟩, go⟩ := hr T hT X
  have hv' : v = r.map (gV G) := by cases ho; rfl
  subst hv'
  have hg2 : n0 ≤ n' ∧ ∀ a, a < n0 → K' a = K0 a := ⟨Nat.le_trans hg.1 hg'.1, fun a ha => (hg'.2 a (by omega)).trans (hg.2 a ha)⟩
  rw [← e1] at R'
  have key := hQ p e s m args below meth c ls T'.heap (locs ++ Lc) n0 K0 C R' hv hg2 (fun z hz => (List.mem_append.mp hz).elim (hq z) (hL z))
  have hsz := C.2.2.2.2.2.2.2.2.2.1
  have hdrop := gS_drop R' (n' - n0) n0 (by omega)
  have hmo : gS K' n0 ≤ gS K' n' := gS_mono hg2.1
  obtain ⟨t', s1, q1⟩ := key T' rfl (stand_tight X' (by rw [R'.1, hsz]; omega) (by rw [hsz]; omega))
  refine ⟨t', go t' ?_, q1⟩
  have es : (r.toList ++ rest).map (gV G) = (r.map (gV G)).toList ++ rest.map (gV G) := by cases r <;> simp
  rw [es] at s1
  exact s1
theorem pc_blind {As : List Value} : FrameBlind (gPc G As I J P K n) := fun a U g mk q => ⟨q.1, q.2.1, va_K.moved (u := U) (U := U.calling g mk a) (Vm.Alike.refl U.vm) q.2.2.1, xt_warm (s := U) (U := U.calling g mk a) q.2.2.2 (State.WarmedH.refl U)⟩
theorem pc_at {p : Program} {s : State} {m : MethodId} {args : Array Value} {meth : Method} {c : Code} {n0 : Nat} {As : List Value} {H : Heap} (C : Cx G M p s m args meth c n0) (R : Rep G I J P K n H) : ∀ U : State, U.heap = H → s.WarmedH U.vm → gPc G As I J P K n (As.map (gV G)).toArray U := by
  intro U hU hW
  exact ⟨rfl, by rw [hU]; exact R, va_K.moved hW.alike C.2.2.2.2.2.2.2.2.1, xt_warm C.2.2.2.2.2.2.2.2.2.2 hW⟩
/-- what a callee must be -/
def MI (M : gM) (np : Nat) : Prop := plainName M.1.cls = true ∧ Cond.code M.1 M.2.1 M.2.2.1 M.2.2.2 ∈ tbG ∧ Cond.initialized M.1.cls ∈ tbG ∧ M.2.2.1 ≤ 45 ∧ (M.1.cls ≠ "java/lang/invoke/MethodHandle" ∧ M.1.cls ≠ "java/lang/invoke/VarHandle") ∧ (parseMethodDescriptor M.1.desc).map (fun d => d.parameters.length) = some np
theorem tb_warm {s : State} {args : Array Value} (hts : ∀ w ∈ tbG, w.before args s = true) : ∀ w ∈ tbG, ∀ (a' : Array Value) (U : State), s.WarmedH U.vm → w.before a' U = true := fun w hw a' U hW => word_at hW (good_of_word (List.mem_filter.mp hw).2) (hts w hw)
theorem callB_ok {p : Program} {s : State} {m : MethodId} {args : Array Value} {meth : Method} {c : Code} {n0 : Nat} {M' : gM} {np idx d' n1 S1 n2 S2 : Nat} (C : Cx G M p s m args meth c n0) (hM : MI M' np) (w1 : Cond.methodLink M.1.cls idx M'.1 ∈ tbG) : CallB (gRm (d' + 1) n1 S1) s args M.1.cls idx M'.1 M'.2.1 M'.2.2.1 M'.2.2.2 (gWs M') (gRm d' n2 S2) (601024 - n2) (7293034 - S2) np := by
  obtain ⟨m1, m2, m3, m4, m5, m6⟩ := hM
  have hts := C.2.2.2.2.2.1
  refine ⟨rfl, rfl, Nat.le_refl _, by show 8 + (M'.2.2.1 + 11) + 64 * d' ≤ 64 * (d' + 1); omega, fun w hw a' U hW => ?_, List.mem_cons_self, hts _ m2, hts _ m3, m5, fun sig h => ?_, hts _ w1⟩
  · rcases List.mem_cons.mp hw with q | q
    · subst q; exact tb_warm hts _ m2 a' U hW
    · exact tb_warm hts w q a' U hW
  · rw [h] at m6
    exact (Option.some.inj m6).symm
theorem ok_callS {M' : gM} {np idx : Nat} {As rest : List Value} (hd : decode M.2.1 pc = .ok (.invokestatic idx, 3)) (hM : MI M' np) (w1 : Cond.methodLink M.1.cls idx M'.1 ∈ tbG) (w2 : Cond.static M'.1 ∈ tbG) (hn : As.length = np) (hst : st = As.reverse ++ rest) (hcat : (rest.map fun v => v.category).sum ≤ 8) (hlen : (entV As).length ≤ M'.2.2.1)
    (h : Ok G d M' 0 (entL M'.2.2.1 As) [] I J P K n (fun r I' J' P' K' n' => Ok G (d + 1) M (pc + 3) L (r.toList ++ rest) I' J' P' K' n' Q)) : Ok G (d + 1) M pc L st I J P K n Q := by
  intro p e s m args below meth c ls H locs n0 K0 C R hl hg hq
  obtain ⟨hx, hb, hml, hret, hown, hts, hlk, hnm, hK, hsz, hxt⟩ := id C
  have hS0 : gS K n0 = gS K0 n0 := gS_congr hg.2
  have hmo : gS K n0 ≤ gS K n := gS_mono hg.1
  have c1 := R.2.2.2.2.2.1
  have c2 := R.2.2.2.2.2.2
  have hcat2 : ((rest.map (gV G)).map fun v => v.category).sum ≤ 8 := by rw [List.map_map, show (fun v => v.category) ∘ gV G = fun v => v.category from funext (gV_cat G)]; exact hcat
  refine W_after C hl hg hq (a := (As.map (gV G)).toArray) (va_runS (Ts := tbG) (cc := M.2.1) (nL := M.2.2.1) (own := M.1.cls) (index := idx) (y := M'.1) ⟨hx, hb, hml, hown, hts⟩ (ok_met hlen hM.1 h) ⟨callB_ok C hM w1, hts _ w2⟩ ⟨pc_blind, pc_at C R⟩ rfl (by rw [List.length_map]; exact hn) hl.1 (by rw [hst]; show List.map _ _ = _; rw [List.map_append, List.map_reverse]) (lv_room hcat2) hd ⟨by show n - n0 + (601024 - n) ≤ 601024 - n0; omega, by show gS K n - gS K n0 + (7293034 - gS K n) ≤ 7293034 - gS K0 n0; omega⟩)
theorem ok_callV {M' : gM} {np idx ci b : Nat} {q : vw_C} {As rest : List Value} (hd : decode M.2.1 pc = .ok (.invokevirtual idx, 3)) (hM : MI M' np) (w1 : Cond.methodLink M.1.cls idx M'.1 ∈ tbG) (w2 : Cond.instanceMethod M'.1 ∈ tbG) (w3 : Cond.selects M'.1.cls M'.1 M'.1 ∈ tbG) (hc : vwCl[ci]? = some q) (hc13 : ci < 13) (hcn : M'.1.cls = q.1) (hn : As.length = np) (hst : st = As.reverse ++ .ref b :: rest) (hcat : (rest.map fun v => v.category).sum ≤ 8) (hlen : (entV (.ref b :: As)).length ≤ M'.2.2.1)
    (h : (K b).1 = ci ∧ Ok G d M' 0 (entL M'.2.2.1 (.ref b :: As)) [] I J P K n (fun r I' J' P' K' n' => Ok G (d + 1) M (pc + 3) L (r.toList ++ rest) I' J' P' K' n' Q)) : Ok G (d + 1) M pc L st I J P K n Q := by
  intro p e s m args below meth c ls H locs n0 K0 C R hl hg hq
  obtain ⟨hk, h⟩ := h
  obtain ⟨hx, hb, hml, hret, hown, hts, hlk, hnm, hK, hsz, hxt⟩ := id C
  have hS0 : gS K n0 = gS K0 n0 := gS_congr hg.2
  have hmo : gS K n0 ≤ gS K n := gS_mono hg.1
  have c1 := R.2.2.2.2.2.1
  have c2 := R.2.2.2.2.2.2
  have hbd : gAd G b = gB G + b := rep_ad R (rep_lt R (by omega))
  have hcat2 : ((rest.map (gV G)).map fun v => v.category).sum ≤ 8 := by rw [List.map_map, show (fun v => v.category) ∘ gV G = fun v => v.category from funext (gV_cat G)]; exact hcat
  obtain ⟨r, h1, h2, cell, q1, q2, q3, q4⟩ := rep_obj R hk hc13
  refine W_after C hl hg hq (a := ((.ref b :: As).map (gV G)).toArray) (va_runV (Ts := tbG) (cc := M.2.1) (nL := M.2.2.1) (own := M.1.cls) (index := idx) (y := M'.1) (C := M'.1.cls) (b := gAd G b) (As := As.map (gV G)) ⟨hx, hb, hml, hown, hts⟩ (ok_met hlen hM.1 h) ⟨callB_ok C hM w1, hts _ w2, hts _ w3⟩ ⟨pc_blind, ⟨cell, by rw [hbd]; exact q1, by rw [q3]; rfl, by rw [q2, hcn]; exact (hK.1 ci q hc).2.1⟩, pc_at C R⟩ rfl (by rw [List.length_map]; exact hn) hl.1 (by rw [hst]; show List.map _ _ = _; rw [List.map_append, List.map_reverse]; rfl) (lv_room hcat2) hd ⟨by show n - n0 + (601024 - n) ≤ 601024 - n0; omega, by show gS K n - gS K n0 + (7293034 - gS K n) ≤ 7293034 - gS K0 n0; omega⟩)
theorem ok_callI {M' : gM} {np idx b : Nat} {As rest : List Value} (hd : decode M.2.1 pc = .ok (.invokespecial idx, 3)) (hM : MI M' np) (w1 : Cond.methodLink M.1.cls idx M'.1 ∈ tbG) (w2 : Cond.instanceMethod M'.1 ∈ tbG) (hy : M'.1.name = "<init>") (hr : M'.2.2.2 = none) (hn : As.length = np) (hst : st = As.reverse ++ .ref b :: rest) (hcat : (rest.map fun v => v.category).sum ≤ 8) (hlen : (entV (.ref b :: As)).length ≤ M'.2.2.1)
    (h : Ok G d M' 0 (entL M'.2.2.1 (.ref b :: As)) [] I J P K n (fun r I' J' P' K' n' => Ok G (d + 1) M (pc + 3) L (r.toList ++ rest) I' J' P' K' n' Q)) : Ok G (d + 1) M pc L st I J P K n Q := by
  intro p e s m args below meth c ls H locs n0 K0 C R hl hg hq
  obtain ⟨hx, hb, hml, hret, hown, hts, hlk, hnm, hK, hsz, hxt⟩ := id C
  have hS0 : gS K n0 = gS K0 n0 := gS_congr hg.2
  have hmo : gS K n0 ≤ gS K n := gS_mono hg.1
  have c1 := R.2.2.2.2.2.1
  have c2 := R.2.2.2.2.2.2
  have hcat2 : ((rest.map (gV G)).map fun v => v.category).sum ≤ 8 := by rw [List.map_map, show (fun v => v.category) ∘ gV G = fun v => v.category from funext (gV_cat G)]; exact hcat
  have cb := callB_ok (d' := d) (n1 := n0) (S1 := gS K0 n0) (n2 := n) (S2 := gS K n) C hM w1
  rw [hr] at cb
  refine W_after C hl hg hq (a := ((.ref b :: As).map (gV G)).toArray) (va_runI (Ts := tbG) (cc := M.2.1) (nL := M.2.2.1) (own := M.1.cls) (index := idx) (y := M'.1) (b := gAd G b) (As := As.map (gV G)) ⟨hx, hb, hml, hown, hts⟩ (ok_met hlen hM.1 h) ⟨cb, hy, hts _ w2⟩ ⟨pc_blind, pc_at C R⟩ rfl (by rw [List.length_map]; exact hn) hl.1 (by rw [hst]; show List.map _ _ = _; rw [List.map_append, List.map_reverse]; rfl) (lv_room hcat2) hd ⟨by show n - n0 + (601024 - n) ≤ 601024 - n0; omega, by show gS K n - gS K n0 + (7293034 - gS K n) ≤ 7293034 - gS K0 n0; omega⟩)
end OkCall
