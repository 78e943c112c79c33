/-! a method that returns, or throws java.util.NoSuchElementException -/
abbrev nse : String := "java/util/NoSuchElementException"
abbrev gX : Type := sI → sJ → sP → sK → Nat → Prop
def gXc (G : gG) (X : gX) (n0 : Nat) (K0 : sK) : String → State → State → Prop := fun E _ t => E = nse ∧ ∃ (I : sI) (J : sJ) (P : sP) (K : sK) (n : Nat), Rep G I J P K n t.heap ∧ (n0 ≤ n ∧ ∀ a, a < n0 → K a = K0 a) ∧ X I J P K n
def OkX (G : gG) (d : Nat) (M : gM) (pc : Nat) (L : List (Option Value)) (st : List Value) (I : sI) (J : sJ) (P : sP) (K : sK) (n : Nat) (Q : gQ) (Z : gX) : Prop :=
  ∀ (p : Program) (e : Env) (s : State) (m : MethodId) (args : Array Value) (below : List Frame) (meth : Method) (c : Code) (ls : Array Slot) (H : Heap) (locs : List Loc) (n0 : Nat) (K0 : sK),
    Cx G M p s m args meth c n0 → (∀ x ∈ c.exceptionTable.toList, False) → Rep G I J P K n H → lvr G ls M.2.2.1 L → (n0 ≤ n ∧ ∀ a, a < n0 → K a = K0 a) → (∀ q ∈ locs, gB G ≤ q.base) →
    W p G.1 e (gRm d n0 (gS K0 n0)) s m args below meth c H locs (n - n0) (gS K n - gS K n0) (vx_MQ below (gQc G Q n0 K0) (gXc G Z n0 K0) args s (601024 - n0) (7293034 - gS K0 n0) (fun a => gB G ≤ a)) (F0 m pc ls (st.map (gV G)))
section OkXs
variable {G : gG} {d : Nat} {M : gM} {pc : Nat} {L : List (Option Value)} {st : List Value} {I I' : sI} {J J' : sJ} {P P' : sP} {K : sK} {n : Nat} {Q : gQ} {Z : gX}
theorem okX_of (h : Ok G d M pc L st I J P K n Q) : OkX G d M pc L st I J P K n Q Z :=
  fun p e s m args below meth c ls H locs n0 K0 C _ R hv hg hq => vx_ret (h p e s m args below meth c ls H locs n0 K0 C R hv hg hq)
theorem okX_aload_n {k : Fin 4} {x : Nat} (hd : decode M.2.1 pc = .ok (.aload_n k, 1)) (hl : L[(k : Nat)]? = some (some (.ref x))) (h : OkX G d M (pc + 1) L (.ref x :: st) I J P K n Q Z) : OkX G d M pc L st I J P K n Q Z :=
  fun p e s m args below meth c ls H locs n0 K0 C tb R hv hg hq => lv_aload_n C.1 C.2.1 hd rfl (hv.2.2.2 _ _ hl) (h p e s m args below meth c ls H locs n0 K0 C tb R hv hg hq)
theorem okX_iload_n {k : Fin 4} {x : Int32} (hd : decode M.2.1 pc = .ok (.iload_n k, 1)) (hl : L[(k : Nat)]? = some (some (.int x))) (h : OkX G d M (pc + 1) L (.int x :: st) I J P K n Q Z) : OkX G d M pc L st I J P K n Q Z :=
  fun p e s m args below meth c ls H locs n0 K0 C tb R hv hg hq => lv_iload_n C.1 C.2.1 hd rfl (hv.2.2.2 _ _ hl) (h p e s m args below meth c ls H locs n0 K0 C tb R hv hg hq)
theorem okX_if_eq {off : Int} {x : Int32} (tgt : Nat) (hd : decode M.2.1 pc = .ok (.ifCond .eq off, 3)) (ht : (pc : Int) + off = (tgt : Int)) (h : ((x = 0) → OkX G d M tgt L st I J P K n Q Z) ∧ (¬ (x = 0) → OkX G d M (pc + 3) L st I J P K n Q Z)) : OkX G d M pc L (.int x :: st) I J P K n Q Z :=
  fun p e s m args below meth c ls H locs n0 K0 C tb R hv hg hq => lv_if_eq C.1 C.2.1 hd ht (fun q => h.1 q p e s m args below meth c ls H locs n0 K0 C tb R hv hg hq) (fun q => h.2 q p e s m args below meth c ls H locs n0 K0 C tb R hv hg hq)
theorem okX_if_ne {off : Int} {x : Int32} (tgt : Nat) (hd : decode M.2.1 pc = .ok (.ifCond .ne off, 3)) (ht : (pc : Int) + off = (tgt : Int)) (h : (x = 0 → OkX G d M (pc + 3) L st I J P K n Q Z) ∧ (¬ x = 0 → OkX G d M tgt L st I J P K n Q Z)) : OkX G d M pc L (.int x :: st) I J P K n Q Z :=
  fun p e s m args below meth c ls H locs n0 K0 C tb R hv hg hq => lv_if_ne C.1 C.2.1 hd ht (fun q => h.2 q p e s m args below meth c ls H locs n0 K0 C tb R hv hg hq) (fun q => h.1 q p e s m args below meth c ls H locs n0 K0 C tb R hv hg hq)
theorem okX_getf {ci j idx a : Nat} {q : vw_C} {v : Value} (hd : decode M.2.1 pc = .ok (.getfield idx, 3)) (hF : FI M.1.cls idx ci j q) (hk : (K a).1 = ci) (hv : gF G I J P a j (gTy ci j) = gV G v)
    (h : OkX G d M (pc + 3) L (v :: st) I J P K n Q Z) : OkX G d M pc L (.ref a :: st) I J P K n Q Z := by
  intro p e s m args below meth c ls H locs n0 K0 C tb R hl hg hq
  obtain ⟨f1, f2, f3, f4⟩ := hF
  obtain ⟨r, h1, h2, cell, q1, q2, q3, q4⟩ := rep_obj R hk f2
  have hr : r = q := Option.some.inj (h1.symm.trans f1)
  subst hr
  obtain ⟨hx, hb, hml, hret, hown, hts, hlk, hnm, hK, hsz, hxt⟩ := id C
  obtain ⟨hS, hfc, kC, hkC, hkind⟩ := hK.1 ci _ f1
  obtain ⟨cf, kf, fi, f, hi, hsl⟩ := hS j f3
  have had : gAd G a = gB G + a := rep_ad R (rep_lt R (by omega))
  refine W.getf hx hb hown (hts _ f4) hi (u_facts hfc hkC (u_lays hts (clIn f1) f3) hi).1 (a := gAd G a) (by rw [had]; exact q1) (by rw [q3]; exact fun h => by cases h) (v := gV G v) ?_ rfl rfl hd (h p e s m args below meth c ls H locs n0 K0 C tb R hl hg hq)
  rw [hsl, q4 j f3]
  exact congrArg some hv
theorem okX_iaload {a : Nat} {i : Int32} (hd : decode M.2.1 pc = .ok (.iaload, 1)) (h : (K a).1 = 13 ∧ vp_in i (K a).2 ∧ OkX G d M (pc + 1) L (.int (I a i.toNatClampNeg) :: st) I J P K n Q Z) : OkX G d M pc L (.int i :: .ref a :: st) I J P K n Q Z := by
  intro p e s m args below meth c ls H locs n0 K0 C tb R hl hg hq
  obtain ⟨h1, h2, h3⟩ := h
  have q1 := rep_arr R (t := 0) h1 (by decide)
  have had : gAd G a = gB G + a := rep_ad R (rep_lt R (by omega))
  obtain ⟨hx, hb, hml, hret, hown, hts, hlk, hnm, hK, hsz, hxt⟩ := id C
  exact W.iald (v := .int (I a i.toNatClampNeg)) hx hb (a := gAd G a) (by rw [had]; exact q1) ((hK.2 0 _ rfl).1 _ _) (fun q => by cases q) (by rw [arrV_size]; exact h2) (by rw [arrV_read _ _ (arr_lt h2)]; rfl) rfl rfl hd (h3 p e s m args below meth c ls H locs n0 K0 C tb R hl hg hq)
theorem okX_getP {ci j idx a : Nat} {q : vw_C} (hd : decode M.2.1 pc = .ok (.getfield idx, 3)) (hF : FI M.1.cls idx ci j q) (ht : tyRef (gTy ci j) = true) (h : (K a).1 = ci ∧ ∃ b, P a j = some b ∧ OkX G d M (pc + 3) L (.ref b :: st) I J P K n Q Z) : OkX G d M pc L (.ref a :: st) I J P K n Q Z := by
  obtain ⟨h1, b, h2, h3⟩ := h
  exact okX_getf hd hF h1 (v := .ref b) (by rw [gF_ref ht, h2]; rfl) h3
theorem W_afterX {p : Program} {e : Env} {s : State} {m : MethodId} {args : Array Value} {below : List Frame} {meth : Method} {c : Code} {ls : Array Slot} {H : Heap} {locs : List Loc} {n0 : Nat} {K0 : sK} (C : Cx G M p s m args meth c n0) (tb : ∀ x ∈ c.exceptionTable.toList, False) (hv : lvr G ls M.2.2.1 L) (hg : n0 ≤ n ∧ ∀ a, a < n0 → K a = K0 a) (hq : ∀ q ∈ locs, gB G ≤ q.base) {st0 rest : List Value} {a : Array Value}
    (hr : va_Run p G.1 e (gRm d n0 (gS K0 n0)) s m args below meth c H locs (n - n0) (gS K n - gS K n0) (601024 - n) (7293034 - gS K n) (F0 m pc ls st0) (rest.map (gV G)) (gQc G (fun r I' J' P' K' n' => OkX G d M (pc + 3) L (r.toList ++ rest) I' J' P' K' n' Q Z) n K a) (fun a => gB G ≤ a)) :
    W p G.1 e (gRm d n0 (gS K0 n0)) s m args below meth c H locs (n - n0) (gS K n - gS K n0) (vx_MQ below (gQc G Q n0 K0) (gXc G Z n0 K0) args s (601024 - n0) (7293034 - gS K0 n0) (fun a => gB G ≤ a)) (F0 m pc ls st0) := by
  intro T hT X
  obtain ⟨v, st₀, t, T', Lc, e0, X', hL, e1, e2, ⟨r, I', J', P', K', n', ho, R', hg', hQ⟩, go⟩ := hr T hT X
  have hv' : v = r.map (gV G) := by cases ho; rfl
  subst hv'
  have hg2 : n0 ≤ n' ∧ ∀ a, a < n0 → K' a = K0 a := ⟨Nat.le_trans hg.1 hg'.1, fun a ha => (hg'.2 a (by omega)).trans (hg.2 a ha)⟩
  rw [← e1] at R'
  have key := hQ p e s m args below meth c ls T'.heap (locs ++ Lc) n0 K0 C tb R' hv hg2 (fun z hz => (List.mem_append.mp hz).elim (hq z) (hL z))
  have hsz := C.2.2.2.2.2.2.2.2.2.1
  have hdrop := gS_drop R' (n' - n0) n0 (by omega)
  have hmo : gS K' n0 ≤ gS K' n' := gS_mono hg2.1
  obtain ⟨t', s1, q1⟩ := key T' rfl (stand_tight X' (by rw [R'.1, hsz]; omega) (by rw [hsz]; omega))
  refine ⟨t', go t' ?_, q1⟩
  have es : (r.toList ++ rest).map (gV G) = (r.map (gV G)).toList ++ rest.map (gV G) := by cases r <;> simp
  rw [es] at s1
  exact s1
theorem okX_callS {M' : gM} {np idx : Nat} {As rest : List Value} (hd : decode M.2.1 pc = .ok (.invokestatic idx, 3)) (hM : MI M' np) (w1 : Cond.methodLink M.1.cls idx M'.1 ∈ tbG) (w2 : Cond.static M'.1 ∈ tbG) (hn : As.length = np) (hst : st = As.reverse ++ rest) (hcat : (rest.map fun v => v.category).sum ≤ 8) (hlen : (entV As).length ≤ M'.2.2.1)
    (h : Ok G d M' 0 (entL M'.2.2.1 As) [] I J P K n (fun r I' J' P' K' n' => OkX G (d + 1) M (pc + 3) L (r.toList ++ rest) I' J' P' K' n' Q Z)) : OkX G (d + 1) M pc L st I J P K n Q Z := by
  intro p e s m args below meth c ls H locs n0 K0 C tb R hl hg hq
  obtain ⟨hx, hb, hml, hret, hown, hts, hlk, hnm, hK, hsz, hxt⟩ := id C
  have hS0 : gS K n0 = gS K0 n0 := gS_congr hg.2
  have hmo : gS K n0 ≤ gS K n := gS_mono hg.1
  have c1 := R.2.2.2.2.2.1
  have c2 := R.2.2.2.2.2.2
  have hcat2 : ((rest.map (gV G)).map fun v => v.category).sum ≤ 8 := by rw [List.map_map, show (fun v => v.category) ∘ gV G = fun v => v.category from funext (gV_cat G)]; exact hcat
  refine W_afterX C tb hl hg hq (a := (As.map (gV G)).toArray) (va_runS (Ts := tbG) (cc := M.2.1) (nL := M.2.2.1) (own := M.1.cls) (index := idx) (y := M'.1) ⟨hx, hb, hml, hown, hts⟩ (ok_met hlen hM.1 h) ⟨callB_ok C hM w1, hts _ w2⟩ ⟨pc_blind, pc_at C R⟩ rfl (by rw [List.length_map]; exact hn) hl.1 (by rw [hst]; show List.map _ _ = _; rw [List.map_append, List.map_reverse]) (lv_room hcat2) hd ⟨by show n - n0 + (601024 - n) ≤ 601024 - n0; omega, by show gS K n - gS K n0 + (7293034 - gS K n) ≤ 7293034 - gS K0 n0; omega⟩)
theorem okX_callV {M' : gM} {np idx ci b : Nat} {q : vw_C} {As rest : List Value} (hd : decode M.2.1 pc = .ok (.invokevirtual idx, 3)) (hM : MI M' np) (w1 : Cond.methodLink M.1.cls idx M'.1 ∈ tbG) (w2 : Cond.instanceMethod M'.1 ∈ tbG) (w3 : Cond.selects M'.1.cls M'.1 M'.1 ∈ tbG) (hc : vwCl[ci]? = some q) (hc13 : ci < 13) (hcn : M'.1.cls = q.1) (hn : As.length = np) (hst : st = As.reverse ++ .ref b :: rest) (hcat : (rest.map fun v => v.category).sum ≤ 8) (hlen : (entV (.ref b :: As)).length ≤ M'.2.2.1)
    (h : (K b).1 = ci ∧ Ok G d M' 0 (entL M'.2.2.1 (.ref b :: As)) [] I J P K n (fun r I' J' P' K' n' => OkX G (d + 1) M (pc + 3) L (r.toList ++ rest) I' J' P' K' n' Q Z)) : OkX G (d + 1) M pc L st I J P K n Q Z := by
  intro p e s m args below meth c ls H locs n0 K0 C tb R hl hg hq
  obtain ⟨hk, h⟩ := h
  obtain ⟨hx, hb, hml, hret, hown, hts, hlk, hnm, hK, hsz, hxt⟩ := id C
  have hS0 : gS K n0 = gS K0 n0 := gS_congr hg.2
  have hmo : gS K n0 ≤ gS K n := gS_mono hg.1
  have c1 := R.2.2.2.2.2.1
  have c2 := R.2.2.2.2.2.2
  have hbd : gAd G b = gB G + b := rep_ad R (rep_lt R (by omega))
  have hcat2 : ((rest.map (gV G)).map fun v => v.category).sum ≤ 8 := by rw [List.map_map, show (fun v => v.category) ∘ gV G = fun v => v.category from funext (gV_cat G)]; exact hcat
  obtain ⟨r, h1, h2, cell, q1, q2, q3, q4⟩ := rep_obj R hk hc13
  refine W_afterX C tb hl hg hq (a := ((.ref b :: As).map (gV G)).toArray) (va_runV (Ts := tbG) (cc := M.2.1) (nL := M.2.2.1) (own := M.1.cls) (index := idx) (y := M'.1) (C := M'.1.cls) (b := gAd G b) (As := As.map (gV G)) ⟨hx, hb, hml, hown, hts⟩ (ok_met hlen hM.1 h) ⟨callB_ok C hM w1, hts _ w2, hts _ w3⟩ ⟨pc_blind, ⟨cell, by rw [hbd]; exact q1, by rw [q3]; rfl, by rw [q2, hcn]; exact (hK.1 ci q hc).2.1⟩, pc_at C R⟩ rfl (by rw [List.length_map]; exact hn) hl.1 (by rw [hst]; show List.map _ _ = _; rw [List.map_append, List.map_reverse]; rfl) (lv_room hcat2) hd ⟨by show n - n0 + (601024 - n) ≤ 601024 - n0; omega, by show gS K n - gS K n0 + (7293034 - gS K n) ≤ 7293034 - gS K0 n0; omega⟩)
variable {M' : gM} {np idx ci b : Nat} {q : vw_C} {As rest : List Value}
theorem okX_VkI (hd : decode M.2.1 pc = .ok (.invokevirtual idx, 3)) (hL : LkV M.1.cls idx M' np ci q) (hn : As.length = np) (hst : st = As.reverse ++ .ref b :: rest) (hcat : (rest.map fun v => v.category).sum ≤ 8) (hlen : (entV (.ref b :: As)).length ≤ M'.2.2.1)
    (hk : (K b).1 = ci) (h : ckI G d M' (.ref b :: As) I J P K n (fun v I J => OkX G (d + 1) M (pc + 3) L (.int v :: rest) I J P K n Q Z)) : OkX G (d + 1) M pc L st I J P K n Q Z :=
  okX_callV hd hL.1 hL.2.1 hL.2.2.1 hL.2.2.2.1 hL.2.2.2.2.1 hL.2.2.2.2.2.1 hL.2.2.2.2.2.2 hn hst hcat hlen ⟨hk, ok_mono (fun _ _ _ _ _ _ ⟨⟨e1, e2, e3⟩, v, e4, h⟩ => by subst e1; subst e2; subst e3; subst e4; exact h) h⟩
theorem okX_SkI (hd : decode M.2.1 pc = .ok (.invokestatic idx, 3)) (hL : LkS M.1.cls idx M' np) (hn : As.length = np) (hst : st = As.reverse ++ rest) (hcat : (rest.map fun v => v.category).sum ≤ 8) (hlen : (entV As).length ≤ M'.2.2.1)
    (h : ckI G d M' As I J P K n (fun v I J => OkX G (d + 1) M (pc + 3) L (.int v :: rest) I J P K n Q Z)) : OkX G (d + 1) M pc L st I J P K n Q Z :=
  okX_callS hd hL.1 hL.2.1 hL.2.2 hn hst hcat hlen (ok_mono (fun _ _ _ _ _ _ ⟨⟨e1, e2, e3⟩, v, e4, h⟩ => by subst e1; subst e2; subst e3; subst e4; exact h) h)
/-- 'throw new NoSuchElementException()': one cell more -/
theorem rep_x {H H' : Heap} {z : Nat} (R : Rep G I J P K n H) (e2 : H'.size = H.size + 1) (e3 : ∀ q : Nat, q < H.size → H'[q]? = H[q]?) (hs : ∃ cell : Cell, H'[gB G + n]? = some cell ∧ cell.slots.size = z)
    (c1 : n + 1 ≤ 601024) (c2 : gS K n + z ≤ 7293034) : Rep G I J P (u1 K n (19, z)) (n + 1) H' := by
  have hz := R.1
  refine ⟨by omega, fun q hq => (e3 q (by omega)).trans (R.2.1 q hq), fun b hb => ?_, fun b hb => ?_, fun a ha => ?_, c1, by rw [gS_new]; exact c2⟩
  · by_cases e : b = n
    · subst e; rw [u1_s]; exact hs
    · rw [u1_a _ _ e]
      obtain ⟨cell, h1, h2⟩ := R.2.2.1 b (by omega)
      exact ⟨cell, (e3 _ (by omega)).trans h1, h2⟩
  · by_cases e : b = n
    · subst e; rw [u1_s]
      unfold gC
      rw [if_neg (by show ¬ 19 < 13; decide), if_neg (by show ¬ 19 < 19; decide)]
      trivial
    · rw [u1_a _ _ e]
      have h := R.2.2.2.1 b (by omega)
      have hh : H'[gB G + b]? = H[gB G + b]? := e3 _ (by omega)
      unfold gC at h ⊢
      split
      · rename_i q
        rw [if_pos q] at h
        obtain ⟨r, h1, h2, h3⟩ := h
        exact ⟨r, h1, h2, h3.kept hh⟩
      · rename_i q
        rw [if_neg q] at h
        split
        · rename_i q2
          rw [if_pos q2] at h
          rw [hh, h]
        · trivial
  · rw [u1_a _ _ (by omega)]
    exact R.2.2.2.2.1 a (by omega)
theorem xq_throw0 {p : Program} {l : Launch} {e : Env} {R : Room} {s : State} {m : MethodId} {args : Array Value} {below : List Frame} {meth : Method} {c : Code} {H H0 : Heap} {locs : List Loc} {cells slots : Nat} {free : Addr → Prop} {ls : Array Slot} {rest : List Value} {Qc : Array Value → State → Outcome → State → Prop} {XC : String → State → State → Prop} {cc : ByteArray} {pc : Nat} (hexec : p.tables.exec = Jvm.exec) (hb : c.code = cc) (hl : l.stackTraces = false) {own cls : String} {names : List String} {ik ic mc ms : Nat} {A : Nat → Prop}
    (hown : s.vm.findClass own = some m.cls) (hcls : Bundle.fit cls = true) (hnames : ∀ n ∈ names, Bundle.fit n = true)
    (hk : (Cond.classLink own ik cls).before args s = true) (hini : (Cond.initialized cls).before args s = true) (hat : ∀ w ∈ vx_at0 own ic cls names, w.before args s = true)
    (hgood : ∀ w ∈ Cond.classLink own ik cls :: Cond.initialized cls :: vx_at0 own ic cls names, vx_ot w = true)
    (hU : vx_Zq Bundle.tN "UNASSIGNED_STACK" Bundle.steD A s H0) (hN : vx_Zq Bundle.tN "SUPPRESSED_SENTINEL" Bundle.listD A s H0) (hS : ∀ q : Nat, q < H0.size → ¬ A q → H[q]? = H0[q]?) (hsize : ls.size = c.maxLocals)
    (d0 : decode cc pc = .ok (.new ik, 3)) (d3 : decode cc (pc + 3) = .ok (.dup, 1)) (d4 : decode cc (pc + 4) = .ok (.invokespecial ic, 3)) (d7 : decode cc (pc + 7) = .ok (.athrow, 1))
    (hout : ∀ x ∈ c.exceptionTable.toList, covers x (pc + 7) = false)
    (hRframes : names.length + 3 < R.frames) (hRlocals : (rest.map fun v => v.category).sum + (13 * (names.length + 1) + 42) ≤ R.locals) (hRcells : cells + 1 ≤ R.cells) (hRslots : slots + 6 ≤ R.slots) (hlocks : meth.locks = false)
    (hx : ∀ t : State, t.heap.size = H.size + 1 → (∀ q : Nat, q < H.size → t.heap[q]? = H[q]?) → (∃ ce : Cell, t.heap[H.size]? = some ce ∧ ce.slots.size ≤ 6) → XC cls s t)
    (hf : ∀ z ∈ locs, free z.base) (hc : cells + 1 ≤ mc) (hs : slots + 6 ≤ ms) :
    W p l e R s m args below meth c H locs cells slots (vx_MQ below Qc XC args s mc ms free) (F0 m pc ls rest) := by
  intro T hT X
  have htr : e.platform.stackTraces = false := (show e.platform.stackTraces = l.stackTraces by rw [X.admits.platform]).trans hl
  have Y := vx_rebase X (R' := { frames := R.frames, locals := R.locals, cells := 1, slots := 6 }) (Nat.le_refl _) (Nat.le_refl _) hRcells hRslots
  obtain ⟨s', hA⟩ : ∃ z, z = (T.setVm s.vm).setFrames (.invoking m args :: below) := ⟨_, rfl⟩
  rw [← hA] at Y
  have hvm : s'.vm = s.vm := by rw [hA]; rfl
  have hhp : s'.heap = H := by rw [hA]; exact hT
  have hW0 : s.WarmedH s'.vm := by rw [hvm]; exact State.WarmedH.refl s
  have hat' : ∀ w ∈ vx_at0 own ic cls names, w.before args s' = true := fun w hw => vx_ot_at hW0 hvm.symm (hgood w (List.mem_cons_of_mem _ (List.mem_cons_of_mem _ hw))) (hat w hw)
  have hk' : (Cond.classLink own ik cls).before args s' = true := vx_ot_at hW0 hvm.symm (hgood _ List.mem_cons_self) hk
  have hini' : (Cond.initialized cls).before args s' = true := vx_ot_at hW0 hvm.symm (hgood _ (List.mem_cons_of_mem _ List.mem_cons_self)) hini
  have hU' : vx_Zq Bundle.tN "UNASSIGNED_STACK" Bundle.steD A s' s'.heap := by rw [hhp]; exact vx_Zq.moved hW0.alike (hU.kept hS)
  have hN' : vx_Zq Bundle.tN "SUPPRESSED_SENTINEL" Bundle.listD A s' s'.heap := by rw [hhp]; exact vx_Zq.moved hW0.alike (hN.kept hS)
  have h : ∀ w ∈ Bundle.ownAtoms0 own ic cls names, w.before args s' = true := vx_own hat' (vx_isRefq hU'.1) (vx_isRefq hN'.1) hU'.2.word hN'.2.word
  have hown' : s'.vm.findClass own = some m.cls := by rw [hvm]; exact hown
  have hins : (Cond.instantiable cls 6).before args s' = true := h _ (by simp [Bundle.ownAtoms0])
  obtain ⟨vm₁, cX, kX, hfX, hkX, -, -, X₁, st1⟩ := Y.newCold hexec (own := own) (C := cls) (index := ik) (n := 6) hown' hk' hins hini'
    (g := F0 m pc ls rest) rfl (by rw [hb]; exact d0) (Nat.le_refl _) (Nat.le_refl _)
  generalize hT1 : (T.setVm vm₁).pushCell { cls := cX, slots := kX.instanceTypes.map defaultValue, vm := .none } = T1 at X₁ st1
  have hcat : (Value.ref T.heap.size).category = 1 := rfl
  have hcellA : T1.heap[T.heap.size]? = some (freshCell cX kX) := by rw [← hT1]; exact State.heap_pushCell_size _ _
  have d3' : decode c.code (pc + 3) = .ok (.dup, 1) := by rw [hb]; exact d3
  obtain ⟨U, hsteps, hrun, hend, hW, hsame, ce, hce, hO⟩ := X₁.ctorThrow0 hexec htr (own := own) (cls := cls) (names := names) (ic := ic) hown' hcls hnames h (fun x hx => nomatch hx) hfX hkX hcellA (by rw [hhp, hT]; exact Nat.le_refl _)
    (g := { method := m, pc := pc + 4, locals := ls, stack := .ref T.heap.size :: .ref T.heap.size :: rest, locked := none }) rfl hsize rfl rfl (rest := rest) rfl
    (by rw [hb]; exact d4) (by rw [hb]; exact d7) hout hRframes (by simp only [List.map_cons, List.sum_cons, hcat]; omega) hlocks
  obtain ⟨f1, f2⟩ := vx_frame hsame
  rw [hhp] at f1 f2
  have hWs : s.WarmedH U.vm := State.WarmedH.trans hW0 hW
  obtain ⟨hz1, hz6⟩ : U.heap.size = H.size + 1 ∧ ce.slots.size ≤ 6 := by
    obtain ⟨-, -, g3, -, g5, -⟩ := id hsame
    have g3' : U.heap.size ≤ s'.heap.size + 1 := by simpa using g3
    have g5' : ((U.heap.toList.drop s'.heap.size).map (·.slots.size)).sum ≤ 6 := by simpa using g5
    rw [hhp] at g3' g5'
    rw [hT] at hce
    have hlt := (Array.getElem?_eq_some_iff.mp hce).1
    refine ⟨by omega, ?_⟩
    have hm : ce ∈ U.heap.toList.drop H.size := by
      rw [List.mem_iff_getElem?]
      refine ⟨0, ?_⟩
      rw [List.getElem?_drop, Nat.add_zero, Array.getElem?_toList]
      exact hce
    have h9 : ce.slots.size ≤ ((U.heap.toList.drop H.size).map (·.slots.size)).sum := by
      have : ∀ (xs : List Cell), ce ∈ xs → ce.slots.size ≤ (xs.map (·.slots.size)).sum := by
        intro xs
        induction xs with
        | nil => intro h; cases h
        | cons y ys ih =>
          intro h
          rw [List.map_cons, List.sum_cons]
          rcases List.mem_cons.mp h with q | q
          · rw [q]; omega
          · have := ih q; omega
      exact this _ hm
    omega
  have hcl : s.vm.findClass cls = some ce.cls := by
    have h9 := hO.cls
    rw [hvm] at h9
    exact h9
  have hall : s.sameButNew ({ U with vm := s.vm } : State) locs mc ms := by
    subst hA
    obtain ⟨e1, e2⟩ := hsame
    rw [State.setFrames_setFrames] at e1
    have h2 : (T.setVm s.vm).sameButNew ({ U with vm := s.vm } : State) [] (0 + 1) (0 + 6) := ⟨e1, e2⟩
    have h3 := X.same.trans h2
    rw [List.append_nil] at h3
    exact h3.mono hc hs
  refine ⟨U, ?_, .threw T.heap.size, hrun, hend, Or.inr ⟨T.heap.size, rfl, cls, ce, locs, hx U hz1 (fun q hq => f2 q hq (fun z hz => nomatch hz)) ⟨ce, hT ▸ hce, hz6⟩, hce, hO.vm, hcl, hWs, hall, hf⟩⟩
  refine st1 _ ?_
  show Steps p.tables e below (T1.setTop { method := m, pc := pc + 3, locals := ls, stack := .ref T.heap.size :: rest, locked := none }) _
  jvm_step X₁.here [X₁.here.top, hexec, d3', Value.category]
  exact hsteps
theorem okX_met {As : List Value} (hlen : (entV As).length ≤ M.2.2.1) (hpl : plainName M.1.cls = true) (h : OkX G d M 0 (entL M.2.2.1 As) [] I J P K n Q Z) : vx_Met G.1 M.1 (gWs M) (gRm d n (gS K n)) (gPc G As I J P K n) (gQc G Q n K) (gXc G Z n K) (601024 - n) (7293034 - gS K n) (fun a => gB G ≤ a) := by
  refine vx_ofW (cc := M.2.1) (maxL := M.2.2.1) (ret := M.2.2.2) hpl rfl ?_
  intro p e s m args below meth c s₁ B hml tb hv
  obtain ⟨rfl, R, hK, hx⟩ := hv
  have hts := atoms_spec (ws := gWs M) B.pre
  have hin : meth.name = M.1.name := (name_of_methodNamed B.named B.method).1
  rw [lg_entry_eq]
  have key := h p e s m (As.map (gV G)).toArray below meth c _ s.heap [] n K ⟨B.exec, B.bytes, hml, B.returns, findClass_of_methodNamed B.named, fun w hw => hts w (List.mem_cons_of_mem _ hw), B.notSynchronized, hin, hK, R.1, hx⟩ tb R (lvr_entry G hlen) ⟨Nat.le_refl _, fun _ _ => rfl⟩ (fun q hq => absurd hq List.not_mem_nil)
  rw [Nat.sub_self, Nat.sub_self] at key
  exact key
def nsN : List String := ["java/lang/RuntimeException", "java/lang/Exception"]
theorem at_in0 : ((vx_at0 RX11 170 nse nsN).all fun w => tbG.contains w || (xtG.contains w && w.onTables)) = true := by decide +kernel
theorem at_in {p : Program} {s : State} {m : MethodId} {args : Array Value} {meth : Method} {c : Code} {n0 : Nat} (C : Cx G M p s m args meth c n0) : ∀ w ∈ vx_at0 RX11 170 nse nsN, w.before args s = true := by
  intro w hw
  have h := List.all_eq_true.mp at_in0 w hw
  simp only [Bool.or_eq_true, Bool.and_eq_true, List.contains_iff_mem] at h
  rcases h with h | ⟨h1, h2⟩
  · exact C.2.2.2.2.2.1 w h
  · exact va_Nw.use h2 (C.2.2.2.2.2.2.2.2.2.2.1 w h1)
theorem at_good : ∀ w ∈ Cond.classLink RX11 168 nse :: Cond.initialized nse :: vx_at0 RX11 170 nse nsN, vx_ot w = true := by
  have : ((Cond.classLink RX11 168 nse :: Cond.initialized nse :: vx_at0 RX11 170 nse nsN).all vx_ot) = true := by decide +kernel
  exact List.all_eq_true.mp this
theorem at_w1 : Cond.classLink RX11 168 nse ∈ tbG := tbm 1138 (by decide +kernel) rfl
theorem at_w2 : Cond.initialized nse ∈ tbG := tbm 21 (by decide +kernel) rfl
theorem okX_throw (hl : G.1.stackTraces = false) (ho : M.1.cls = RX11) (d0 : decode M.2.1 pc = .ok (.new 168, 3)) (d3 : decode M.2.1 (pc + 3) = .ok (.dup, 1)) (d4 : decode M.2.1 (pc + 4) = .ok (.invokespecial 170, 3)) (d7 : decode M.2.1 (pc + 7) = .ok (.athrow, 1))
    (c1 : n + 1 ≤ 601024) (c2 : gS K n + 6 ≤ 7293034) (h : ∀ z, z ≤ 6 → Z I J P (u1 K n (19, z)) (n + 1)) : OkX G (d + 10) M pc L [] I J P K n Q Z := by
  intro p e s m args below meth c ls H locs n0 K0 C tb R hv hg hq
  obtain ⟨hx, hb, hml, hret, hown, hts, hlk, hnm, hK, hsz, hxt⟩ := id C
  have hS0 : gS K n0 = gS K0 n0 := gS_congr hg.2
  have hmo : gS K n0 ≤ gS K n := gS_mono hg.1
  have hz := R.1
  refine xq_throw0 (A := fun a => gB G ≤ a) (own := RX11) (cls := nse) (names := nsN) (ik := 168) (ic := 170) (H0 := G.2.1) hx hb hl (by rw [← ho]; exact hown) (by decide) (by decide) (hts _ at_w1) (hts _ at_w2) (at_in C) at_good hxt.2.2.2.2.1 hxt.2.2.2.2.2.1 (fun q hq _ => R.2.1 q hq) (hv.1.trans hml.symm) d0 d3 d4 d7 (fun x hx => (tb x hx).elim) (by show 2 + 3 < d + 10; omega) (by show 0 + (13 * (2 + 1) + 42) ≤ 64 * (d + 10); omega) (by show n - n0 + 1 ≤ 601024 - n0; omega) (by show gS K n - gS K n0 + 6 ≤ 7293034 - gS K0 n0; omega) hlk ?_ hq (by omega) (by omega)
  intro t t1 t2 ⟨ce, t3, t4⟩
  refine ⟨rfl, I, J, P, _, n + 1, rep_x (z := ce.slots.size) R t1 t2 ⟨ce, by rw [← hz]; exact t3, rfl⟩ c1 (by omega), grow1 _ hg, h _ t4⟩
end OkXs
/-! a method with one handler, for the call ahead of it -/
def tbH : List (Nat × Nat × Nat × Nat) := [(0, 10, 13, 13)]
def OkH (G : gG) (d : Nat) (M : gM) (pc : Nat) (L : List (Option Value)) (st : List Value) (I : sI) (J : sJ) (P : sP) (K : sK) (n : Nat) (Q : gQ) : Prop :=
  ∀ (p : Program) (e : Env) (s : State) (m : MethodId) (args : Array Value) (below : List Frame) (meth : Method) (c : Code) (ls : Array Slot) (H : Heap) (locs : List Loc) (n0 : Nat) (K0 : sK),
    Cx G M p s m args meth c n0 → c.exceptionTable.toList = tableOf tbH → Rep G I J P K n H → lvr G ls M.2.2.1 L → (n0 ≤ n ∧ ∀ a, a < n0 → K a = K0 a) → (∀ q ∈ locs, gB G ≤ q.base) →
    W p G.1 e (gRm d n0 (gS K0 n0)) s m args below meth c H locs (n - n0) (gS K n - gS K n0) (MQ below (gQc G Q n0 K0) args s (601024 - n0) (7293034 - gS K0 n0) (fun a => gB G ≤ a)) (F0 m pc ls (st.map (gV G)))
section OkHs
variable {G : gG} {d : Nat} {M : gM} {pc : Nat} {L : List (Option Value)} {st : List Value} {I I' : sI} {J J' : sJ} {P P' : sP} {K : sK} {n : Nat} {Q : gQ}
theorem okH_iconst {k : Int} (v : Int32) (hd : decode M.2.1 pc = .ok (.iconst k, 1)) (he : Int32.ofInt k = v) (h : OkH G d M (pc + 1) L (.int v :: st) I J P K n Q) : OkH G d M pc L st I J P K n Q :=
  fun p e s m args below meth c ls H locs n0 K0 C tb R hv hg hq => lv_iconst C.1 C.2.1 hd he (h p e s m args below meth c ls H locs n0 K0 C tb R hv hg hq)
theorem okH_aload_n {k : Fin 4} {x : Nat} (hd : decode M.2.1 pc = .ok (.aload_n k, 1)) (hl : L[(k : Nat)]? = some (some (.ref x))) (h : OkH G d M (pc + 1) L (.ref x :: st) I J P K n Q) : OkH G d M pc L st I J P K n Q :=
  fun p e s m args below meth c ls H locs n0 K0 C tb R hv hg hq => lv_aload_n C.1 C.2.1 hd rfl (hv.2.2.2 _ _ hl) (h p e s m args below meth c ls H locs n0 K0 C tb R hv hg hq)
theorem okH_iload_n {k : Fin 4} {x : Int32} (hd : decode M.2.1 pc = .ok (.iload_n k, 1)) (hl : L[(k : Nat)]? = some (some (.int x))) (h : OkH G d M (pc + 1) L (.int x :: st) I J P K n Q) : OkH G d M pc L st I J P K n Q :=
  fun p e s m args below meth c ls H locs n0 K0 C tb R hv hg hq => lv_iload_n C.1 C.2.1 hd rfl (hv.2.2.2 _ _ hl) (h p e s m args below meth c ls H locs n0 K0 C tb R hv hg hq)
theorem lvr_any {ls ls' : Array Slot} {nL : Nat} {i : Nat} {w : Value} (h : lvr G ls nL L) (hn : L[i]? = some none) (hc : ∀ (j : Nat) (v : Value), j + 1 = i → L[j]? = some (some v) → v.category ≠ 2) (h' : lv_has ls' nL ((i, w) :: (prs G L).filter (fun q => !(q.1 == i) && !(q.1 + 1 == i && q.2.category == 2)))) : lvr G ls' nL L := by
  refine ⟨h'.1, h.2.1, h'.2.1, fun j v hv => ?_⟩
  refine h'.2.2 (j, gV G v) (List.mem_cons_of_mem _ (List.mem_filter.mpr ⟨prs_mem hv, ?_⟩))
  simp only [gV_cat, Bool.and_eq_true, Bool.not_eq_true', beq_eq_false_iff_ne, ne_eq, Bool.and_eq_false_iff]
  refine ⟨fun e => ?_, ?_⟩
  · subst e; rw [hn] at hv; cases hv
  · by_cases q : j + 1 = i
    · exact Or.inr (hc j v q hv)
    · exact Or.inl q
theorem okH_callVX {M' : gM} {np idx ci b : Nat} {q : vw_C} {As rest : List Value} (hd : decode M.2.1 5 = .ok (.invokevirtual idx, 3)) (hL : LkV M.1.cls idx M' np ci q) (hn : As.length = np) (hst : st = As.reverse ++ .ref b :: rest) (hcat : (rest.map fun v => v.category).sum ≤ 8) (hlen : (entV (.ref b :: As)).length ≤ M'.2.2.1) (hk : (K b).1 = ci)
    (d13 : decode M.2.1 13 = .ok (.astore 4, 2)) (h5 : M.2.2.1 = 5) (h4 : L[4]? = some none) (h3 : ∀ v : Value, L[3]? = some (some v) → v.category ≠ 2) (w : Cond.classLink M.1.cls 13 nse ∈ tbG)
    (h : OkX G d M' 0 (entL M'.2.2.1 (.ref b :: As)) [] I J P K n (fun r I' J' P' K' n' => Ok G (d + 1) M 8 L (r.toList ++ rest) I' J' P' K' n' Q) (fun I' J' P' K' n' => Ok G (d + 1) M 15 L [] I' J' P' K' n' Q)) : OkH G (d + 1) M 5 L st I J P K n Q := by
  intro p e s m args below meth c ls H locs n0 K0 C tb R hl hg hq
  obtain ⟨hM, w1, w2, w3, hc, hc13, hcn⟩ := hL
  obtain ⟨hx, hb, hml, hret, hown, hts, hlk, hnm, hK, hsz, hxt⟩ := id C
  have hS0 : gS K n0 = gS K0 n0 := gS_congr hg.2
  have hmo : gS K n0 ≤ gS K n := gS_mono hg.1
  have c1 := R.2.2.2.2.2.1
  have c2 := R.2.2.2.2.2.2
  have hbd : gAd G b = gB G + b := rep_ad R (rep_lt R (by omega))
  have hcat2 : ((rest.map (gV G)).map fun v => v.category).sum ≤ 8 := by rw [List.map_map, show (fun v => v.category) ∘ gV G = fun v => v.category from funext (gV_cat G)]; exact hcat
  obtain ⟨r, h1, h2, cell, q1, q2, q3, q4⟩ := rep_obj R hk hc13
  have hr := vx_runV (p := p) (e := e) (meth := meth) (below := below) (locs := locs) (cells := n - n0) (slots := gS K n - gS K n0) (g := F0 m 5 ls (st.map (gV G))) (rest := rest.map (gV G)) (R := gRm (d + 1) n0 (gS K0 n0)) (Ts := tbG) (cc := M.2.1) (nL := M.2.2.1) (own := M.1.cls) (index := idx) (y := M'.1) (C := M'.1.cls) (b := gAd G b) (As := As.map (gV G)) ⟨hx, hb, hml, hown, hts⟩ (okX_met hlen hM.1 h) ⟨callB_ok C hM w1, hts _ w2, hts _ w3⟩ ⟨pc_blind, ⟨cell, by rw [hbd]; exact q1, by rw [q3]; rfl, by rw [q2, hcn]; exact (hK.1 ci q hc).2.1⟩, pc_at C R⟩ rfl (by rw [List.length_map]; exact hn) hl.1 (by rw [hst]; show List.map _ _ = _; rw [List.map_append, List.map_reverse]; rfl) (lv_room hcat2) hd ⟨by show n - n0 + (601024 - n) ≤ 601024 - n0; omega, by show gS K n - gS K n0 + (7293034 - gS K n) ≤ 7293034 - gS K0 n0; omega⟩
  intro T hT X
  rcases hr T hT X with ⟨v, st₀, t, T', Lc, e0, X', hLc, e1, e2, ⟨r, I', J', P', K', n', ho, R', hg', hQ⟩, go⟩ | ⟨qx, st₀, t, T', Lc, E, ce, e0, X', hLc, e1, e2, ⟨hE, I', J', P', K', n', R', hg', hZ⟩, hce, hcv, hcl, steps⟩
  · have hv' : v = r.map (gV G) := by cases ho; rfl
    subst hv'
    have hg2 : n0 ≤ n' ∧ ∀ a, a < n0 → K' a = K0 a := ⟨Nat.le_trans hg.1 hg'.1, fun a ha => (hg'.2 a (by omega)).trans (hg.2 a ha)⟩
    rw [← e1] at R'
    have key := hQ p e s m args below meth c ls T'.heap (locs ++ Lc) n0 K0 C R' hl hg2 (fun z hz => (List.mem_append.mp hz).elim (hq z) (hLc z))
    have hdrop := gS_drop R' (n' - n0) n0 (by omega)
    have hmo' : gS K' n0 ≤ gS K' n' := gS_mono hg2.1
    obtain ⟨t', s1, q1⟩ := key T' rfl (stand_tight X' (by rw [R'.1, hsz]; omega) (by rw [hsz]; omega))
    refine ⟨t', go t' ?_, q1⟩
    have es : (r.toList ++ rest).map (gV G) = (r.map (gV G)).toList ++ rest.map (gV G) := by cases r <;> simp
    rw [es] at s1
    exact s1
  · subst hE
    have hg2 : n0 ≤ n' ∧ ∀ a, a < n0 → K' a = K0 a := ⟨Nat.le_trans hg.1 hg'.1, fun a ha => (hg'.2 a (by omega)).trans (hg.2 a ha)⟩
    rw [← e1] at R'
    have hdrop := gS_drop R' (n' - n0) n0 (by omega)
    have hmo' : gS K' n0 ≤ gS K' n' := gS_mono hg2.1
    have kk : W p G.1 e (gRm (d + 1) n0 (gS K0 n0)) s m args below meth c T'.heap (locs ++ Lc) (n' - n0) (gS K' n' - gS K' n0) (MQ below (gQc G Q n0 K0) args s (601024 - n0) (7293034 - gS K0 n0) (fun a => gB G ≤ a)) (F0 m 13 ls [.ref qx]) := by
      refine lv_astore hx hb d13 (lvr_has hl) (by omega) rfl (fun ls2 g2 => ?_)
      exact hZ p e s m args below meth c ls2 T'.heap (locs ++ Lc) n0 K0 C R' (lvr_any hl h4 (fun j v e1 e2 => h3 v (by rw [show 3 = j by omega]; exact e2)) g2) hg2 (fun z hz => (List.mem_append.mp hz).elim (hq z) (hLc z))
    have hw := vx_catch (pc := 5) (ls := ls) (rest := rest.map (gV G)) (E := nse) (name := nse) (own := M.1.cls) hown [] { startPc := 0, endPc := 10, handlerPc := 13, catchType := 13 } [] (by rw [tb]; rfl) (fun z hz => by cases hz) (by decide) (by decide) (hts _ w) (va_Nw.use rfl (hxt.1 _ (xtm 1140 (by decide +kernel) rfl))) (by rw [e1]; exact hce) hcv hcl kk
    obtain ⟨t', s1, q1⟩ := hw T' rfl (stand_tight X' (by rw [R'.1, hsz]; omega) (by rw [hsz]; omega))
    exact ⟨t', steps.trans s1, q1⟩
def gWh (M : gM) : List Cond := Cond.codeWith M.1 M.2.1 M.2.2.1 M.2.2.2 tbH :: tbG
theorem okH_met {As : List Value} (hlen : (entV As).length ≤ M.2.2.1) (hpl : plainName M.1.cls = true) (h : OkH G d M 0 (entL M.2.2.1 As) [] I J P K n Q) : Met G.1 M.1 (gWh M) (gRm d n (gS K n)) (gPc G As I J P K n) (gQc G Q n K) (601024 - n) (7293034 - gS K n) (fun a => gB G ≤ a) := by
  refine va_MetW (cc := M.2.1) (maxL := M.2.2.1) (ret := M.2.2.2) (hh := tbH) hpl rfl ?_
  intro p e s m args below meth c s₁ B hml hv
  obtain ⟨rfl, R, hK, hx⟩ := hv
  have hts := atoms_spec (ws := gWh M) B.pre
  have hin : meth.name = M.1.name := (name_of_methodNamed B.named B.method).1
  rw [lg_entry_eq]
  have key := h p e s m (As.map (gV G)).toArray below meth c _ s.heap [] n K ⟨B.exec, B.bytes, hml, B.returns, findClass_of_methodNamed B.named, fun w hw => hts w (List.mem_cons_of_mem _ hw), B.notSynchronized, hin, hK, R.1, hx⟩ (vx_table (x := M.1) B (hts _ List.mem_cons_self)) R (lvr_entry G hlen) ⟨Nat.le_refl _, fun _ _ => rfl⟩ (fun q hq => absurd hq List.not_mem_nil)
  rw [Nat.sub_self, Nat.sub_self] at key
  exact key
/-- what a callee with a handler must be -/
def MH (M : gM) (np : Nat) : Prop := plainName M.1.cls = true ∧ Cond.codeWith M.1 M.2.1 M.2.2.1 M.2.2.2 tbH ∈ tbG ∧ Cond.initialized M.1.cls ∈ tbG ∧ M.2.2.1 ≤ 45 ∧ (M.1.cls ≠ "java/lang/invoke/MethodHandle" ∧ M.1.cls ≠ "java/lang/invoke/VarHandle") ∧ (parseMethodDescriptor M.1.desc).map (fun d => d.parameters.length) = some np
theorem ok_callH {M' : gM} {np idx : Nat} {As rest : List Value} (hd : decode M.2.1 pc = .ok (.invokestatic idx, 3)) (hM : MH M' np) (w1 : Cond.methodLink M.1.cls idx M'.1 ∈ tbG) (w2 : Cond.static M'.1 ∈ tbG) (hn : As.length = np) (hst : st = As.reverse ++ rest) (hcat : (rest.map fun v => v.category).sum ≤ 8) (hlen : (entV As).length ≤ M'.2.2.1)
    (h : OkH G d M' 0 (entL M'.2.2.1 As) [] I J P K n (fun r I' J' P' K' n' => Ok G (d + 1) M (pc + 3) L (r.toList ++ rest) I' J' P' K' n' Q)) : Ok G (d + 1) M pc L st I J P K n Q := by
  intro p e s m args below meth c ls H locs n0 K0 C R hl hg hq
  obtain ⟨hx, hb, hml, hret, hown, hts, hlk, hnm, hK, hsz, hxt⟩ := id C
  obtain ⟨m1, m2, m3, m4, m5, m6⟩ := hM
  have hS0 : gS K n0 = gS K0 n0 := gS_congr hg.2
  have hmo : gS K n0 ≤ gS K n := gS_mono hg.1
  have c1 := R.2.2.2.2.2.1
  have c2 := R.2.2.2.2.2.2
  have hcat2 : ((rest.map (gV G)).map fun v => v.category).sum ≤ 8 := by rw [List.map_map, show (fun v => v.category) ∘ gV G = fun v => v.category from funext (gV_cat G)]; exact hcat
  refine W_after C hl hg hq (a := (As.map (gV G)).toArray) (vx_runSW (n := np) (hh := tbH) (bytes := M'.2.1) (maxL := M'.2.2.1) (ret := M'.2.2.2) (Ts := tbG) (cc := M.2.1) (nL := M.2.2.1) (own := M.1.cls) (index := idx) (y := M'.1) ⟨hx, hb, hml, hown, hts⟩ (okH_met hlen m1 h) ⟨⟨rfl, rfl, Nat.le_refl _, by show 8 + (M'.2.2.1 + 11) + 64 * d ≤ 64 * (d + 1); omega, fun w hw a' U hW => ?_, List.mem_cons_self⟩, hts _ m2, hts _ m3, m5, fun sig h => ?_, hts _ w1, hts _ w2⟩ ⟨pc_blind, pc_at C R⟩ rfl (by rw [List.length_map]; exact hn) hl.1 (by rw [hst]; show List.map _ _ = _; rw [List.map_append, List.map_reverse]) (lv_room hcat2) hd ⟨by show n - n0 + (601024 - n) ≤ 601024 - n0; omega, by show gS K n - gS K n0 + (7293034 - gS K n) ≤ 7293034 - gS K0 n0; omega⟩)
  · rcases List.mem_cons.mp hw with q | q
    · subst q; exact tb_warm hts _ m2 a' U hW
    · exact tb_warm hts w q a' U hW
  · rw [h] at m6
    exact (Option.some.inj m6).symm
end OkHs
section OkMo
variable {G : gG} {d : Nat} {M : gM} {pc : Nat} {L : List (Option Value)} {st : List Value} {I : sI} {J : sJ} {P : sP} {K : sK} {n : Nat} {Q Q' : gQ} {Z Z' : gX}
theorem okH_mono (hq : ∀ r I J P K n, Q r I J P K n → Q' r I J P K n) (h : OkH G d M pc L st I J P K n Q) : OkH G d M pc L st I J P K n Q' := by
  intro p e s m args below meth c ls H locs n0 K0 C tb R hl hg hq'
  refine W_mono (fun t ht => ?_) (h p e s m args below meth c ls H locs n0 K0 C tb R hl hg hq')
  obtain ⟨o, h1, h2, ⟨r, I', J', P', K', n', g1, g2, g3, g4⟩, h4⟩ := ht
  exact ⟨o, h1, h2, ⟨r, I', J', P', K', n', g1, g2, g3, hq _ _ _ _ _ _ g4⟩, h4⟩
theorem okX_mono (hq : ∀ r I J P K n, Q r I J P K n → Q' r I J P K n) (hz : ∀ I J P K n, Z I J P K n → Z' I J P K n) (h : OkX G d M pc L st I J P K n Q Z) : OkX G d M pc L st I J P K n Q' Z' := by
  intro p e s m args below meth c ls H locs n0 K0 C tb R hl hg hq'
  refine W_mono (fun t ht => ?_) (h p e s m args below meth c ls H locs n0 K0 C tb R hl hg hq')
  obtain ⟨o, h1, h2, h3⟩ := ht
  refine ⟨o, h1, h2, ?_⟩
  rcases h3 with ⟨⟨r, I', J', P', K', n', g1, g2, g3, g4⟩, h4⟩ | ⟨q, e1, E, ce, Lc, ⟨x1, I', J', P', K', n', x2, x3, x4⟩, h5⟩
  · exact Or.inl ⟨⟨r, I', J', P', K', n', g1, g2, g3, hq _ _ _ _ _ _ g4⟩, h4⟩
  · exact Or.inr ⟨q, e1, E, ce, Lc, ⟨x1, I', J', P', K', n', x2, x3, hz _ _ _ _ _ x4⟩, h5⟩
end OkMo
