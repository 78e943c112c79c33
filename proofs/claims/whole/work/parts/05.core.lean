/-! the abstract store, and what it is of the heap -/
abbrev sI : Type := Nat → Nat → Int32
abbrev sJ : Type := Nat → Nat → Int64
abbrev sP : Type := Nat → Nat → Option Nat
abbrev sK : Type := Nat → Nat × Nat
def u2 {α : Type} (f : Nat → Nat → α) (a k : Nat) (v : α) : Nat → Nat → α := fun a' k' => if a' = a ∧ k' = k then v else f a' k'
def z2 {α : Type} (f : Nat → Nat → α) (a : Nat) (v : α) : Nat → Nat → α := fun a' k' => if a' = a then v else f a' k'
def u1 {α : Type} (f : Nat → α) (a : Nat) (v : α) : Nat → α := fun a' => if a' = a then v else f a'
theorem u2_s {α : Type} (f : Nat → Nat → α) (a k : Nat) (v : α) : u2 f a k v a k = v := by simp [u2]
theorem u2_a {α : Type} (f : Nat → Nat → α) {a a' : Nat} (k k' : Nat) (v : α) (h : a' ≠ a) : u2 f a k v a' k' = f a' k' := by simp [u2, h]
theorem u2_k {α : Type} (f : Nat → Nat → α) (a a' : Nat) {k k' : Nat} (v : α) (h : k' ≠ k) : u2 f a k v a' k' = f a' k' := by simp [u2, h]
/-- launch, first heap, class numbers and slots, array classes, addresses of String constants -/
abbrev gG : Type := Launch × Heap × va_G × (Nat → ClassId) × (Nat → Nat)
abbrev gB (G : gG) : Nat := G.2.1.size
def gAd (G : gG) (a : Nat) : Nat := if a < 4294967296 then G.2.1.size + a else G.2.2.2.2 (a - 4294967296)
def gV (G : gG) (v : Value) : Value := match v with
  | .ref a => .ref (gAd G a)
  | w => w
def gR (G : gG) (r : Option Nat) : Value := match r with
  | none => .null
  | some a => .ref (gAd G a)
theorem gV_int (G : gG) (x : Int32) : gV G (.int x) = .int x := rfl
theorem gV_long (G : gG) (x : Int64) : gV G (.long x) = .long x := rfl
theorem gV_null (G : gG) : gV G .null = .null := rfl
theorem gV_ref (G : gG) (a : Nat) : gV G (.ref a) = .ref (gAd G a) := rfl
theorem gV_cat (G : gG) (v : Value) : (gV G v).category = v.category := by cases v <;> rfl
def gTy (ci k : Nat) : FieldType := match ci with
  | 0 => tyX0 k
  | 1 => tyX1 k
  | 2 => tyX2 k
  | 3 => tyX3 k
  | 4 => tyX4 k
  | 5 => tyX5 k
  | 6 => tyX6 k
  | 7 => tyX7 k
  | 8 => tyX8 k
  | 9 => tyX9 k
  | 10 => tyX10 k
  | 11 => tyX11 k
  | _ => tyX12 k
def gF (G : gG) (I : sI) (J : sJ) (P : sP) (a k : Nat) (t : FieldType) : Value := match t with
  | .long => .long (J a k)
  | .object _ => gR G (P a k)
  | .array _ => gR G (P a k)
  | _ => .int (I a k)
def gE (G : gG) (I : sI) (J : sJ) (P : sP) (a j t : Nat) : Value := if t = 1 then .long (J a j) else if 3 ≤ t then gR G (P a j) else .int (I a j)
def gC (G : gG) (I : sI) (J : sJ) (P : sP) (a : Nat) (k : Nat × Nat) (H : Heap) : Prop :=
  if k.1 < 13 then (∃ r : vw_C, vwCl[k.1]? = some r ∧ r.2.2 = k.2 ∧ t_OB (gB G + a) (G.2.2.1.1 k.1) r.2.2 (G.2.2.1.2 k.1) H (fun j => gF G I J P a j (gTy k.1 j)))
  else if k.1 < 19 then H[gB G + a]? = some (arrV (G.2.2.2.1 (k.1 - 13)) k.2 (fun j => gE G I J P a j (k.1 - 13))) else True
def gS (K : sK) : Nat → Nat
  | 0 => 0
  | n + 1 => gS K n + (K n).2
def Rep (G : gG) (I : sI) (J : sJ) (P : sP) (K : sK) (n : Nat) (H : Heap) : Prop :=
  H.size = gB G + n ∧ (∀ q : Nat, q < gB G → H[q]? = G.2.1[q]?) ∧ (∀ a, a < n → ∃ cell : Cell, H[gB G + a]? = some cell ∧ cell.slots.size = (K a).2) ∧ (∀ a, a < n → gC G I J P a (K a) H) ∧ (∀ a, n ≤ a → K a = (20, 0)) ∧ n ≤ 601024 ∧ gS K n ≤ 7293034
def gTys (G : gG) : List (ClassId × FieldType) := [(G.2.2.2.1 0, .int), (G.2.2.2.1 1, .long), (G.2.2.2.1 2, .boolean), (G.2.2.2.1 3, .object "SoleraHouse$Cellar"), (G.2.2.2.1 4, .object "SoleraHouse$Sentence"), (G.2.2.2.1 5, .array .int)]
/-- a method: its name, code, locals, what it returns -/
abbrev gM : Type := MethodName × ByteArray × Nat × Option FieldType
def gRm (d n S : Nat) : Room := { frames := d, cells := 601024 - n, slots := 7293034 - S, locals := 64 * d }
def tbG : List Cond := lw_tbl.filter goodWord
def xtK (w : Cond) : Bool := match w with
  | .methodLinkNest _ _ _ _ => true
  | .castable _ _ => true
  | .declares _ => true
  | .arrayOver (.object _) => true
  | .arrayOver (.array .int) => true
  | _ => false
def xtG : List Cond := lw_tbl.filter xtK
theorem aoa_moved {t : FieldType} {u U : State} (hvm : u.vm.Alike U.vm) (h : (Cond.arrayOver (.array t)).before #[] u = true) : (Cond.arrayOver (.array t)).before #[] U = true := by
  simp only [Cond.before, Cond.holds, Cond.value, beq_iff_eq] at h
  cases hc : u.vm.findClass (FieldType.array t).toString with
  | none => simp [hc] at h
  | some comp =>
    simp only [hc, Option.bind_some, Option.bind_eq_some_iff, Option.map_eq_some_iff] at h
    obtain ⟨c, h2, k, h3, hm⟩ := h
    obtain ⟨k', hk', he⟩ := hvm.2.2 _ _ h3
    have hi : (U.vm.classes.findIdx? fun (x : Class) => match x.kind with | .array component _ => component == comp | _ => false) = some c := by
      have e3 : U.vm.bare = u.vm.bare := by first | exact hvm.bare_eq | exact hvm.bare_eq.symm
      refine (va_idx_bare U.vm comp).symm.trans ?_
      rw [e3]
      exact (va_idx_bare u.vm comp).trans h2
    have f1 : U.vm.findClass (FieldType.array t).toString = some comp := by rw [hvm.findClass]; exact hc
    simp only [Cond.before, Cond.holds, Cond.value, beq_iff_eq]
    rw [f1, Option.bind_some]
    simp only [Option.bind_eq_some_iff, Option.map_eq_some_iff]
    refine ⟨c, hi, k', hk', ?_⟩
    have hkk : k'.kind = k.kind := by rw [he]
    rw [hkk, hvm.findClass]
    exact hm
theorem xt_warm0 {s U : State} (h : ∀ w ∈ xtG, va_Nw w s) (hW : s.WarmedH U.vm) : ∀ w ∈ xtG, va_Nw w U := by
  intro w hw
  have h1 := h w hw
  have h2 := (List.mem_filter.mp hw).2
  unfold xtK at h2
  split at h2
  · exact va_Nw.warmM hW h1
  · exact va_Nw.warmC hW h1
  · exact va_Nw.warmD hW h1
  · exact va_AO.moved hW.alike h1
  · exact aoa_moved hW.alike h1
  · cases h2
/-- the String constants, the statics that are read -/
def sOwn (i : Nat) : String := match i with
  | 0 => RX6
  | _ => RX10
def sIdx (i : Nat) : Nat := match i with
  | 0 => 70
  | 1 => 38
  | 2 => 52
  | _ => 57
def sTx (i : Nat) : String := match i with
  | 0 => "scale wine year angels most draw run top tip years or and not full empty mixed in has litres age drawn number "
  | 1 => " cask "
  | 2 => " "
  | _ => " of "
def sByt : List (List Int32) := [[115, 99, 97, 108, 101, 32, 119, 105, 110, 101, 32, 121, 101, 97, 114, 32, 97, 110, 103, 101, 108, 115, 32, 109, 111, 115, 116, 32, 100, 114, 97, 119, 32, 114, 117, 110, 32, 116, 111, 112, 32, 116, 105, 112, 32, 121, 101, 97, 114, 115, 32, 111, 114, 32, 97, 110, 100, 32, 110, 111, 116, 32, 102, 117, 108, 108, 32, 101, 109, 112, 116, 121, 32, 109, 105, 120, 101, 100, 32, 105, 110, 32, 104, 97, 115, 32, 108, 105, 116, 114, 101, 115, 32, 97, 103, 101, 32, 100, 114, 97, 119, 110, 32, 110, 117, 109, 98, 101, 114, 32], [32, 99, 97, 115, 107, 32], [32], [32, 111, 102, 32]]
def sLen : List Nat := [110, 6, 1, 4]
def stP (G : gG) (U : State) : Prop := (∀ i, i < 4 → vk_R (sOwn i) (sIdx i) (sTx i) (G.2.2.2.2 i) U) ∧ vk_S 4 sLen sByt G.2.2.2.2 (fun i => G.2.2.2.2 (4 + i)) (fun a => gB G ≤ a) U G.2.1 ∧ va_Z "java/lang/String" "COMPACT_STRINGS" "Z" (.int 1) (fun a => gB G ≤ a) U G.2.1 ∧ vx_Zq Bundle.tN "UNASSIGNED_STACK" Bundle.steD (fun a => gB G ≤ a) U G.2.1 ∧ vx_Zq Bundle.tN "SUPPRESSED_SENTINEL" Bundle.listD (fun a => gB G ≤ a) U G.2.1 ∧ (va_Z "jdk/internal/util/Preconditions" "SIOOBE_FORMATTER" "Ljava/util/function/BiFunction;" .null (fun a => gB G ≤ a) U G.2.1 ∨ va_Z "jdk/internal/util/Preconditions" "SIOOBE_FORMATTER" "Ljava/util/function/BiFunction;" (.ref (G.2.2.2.2 8)) (fun a => gB G ≤ a) U G.2.1)
def xtF (G : gG) (U : State) : Prop := (∀ w ∈ xtG, va_Nw w U) ∧ stP G U
theorem xt_warm {G : gG} {s U : State} (h : xtF G s) (hW : s.WarmedH U.vm) : xtF G U := ⟨xt_warm0 h.1 hW, fun i hi => (h.2.1 i hi).warm hW, h.2.2.1.moved hW.alike, h.2.2.2.1.moved hW.alike, h.2.2.2.2.1.moved hW.alike, h.2.2.2.2.2.1.moved hW.alike, h.2.2.2.2.2.2.elim (fun q => Or.inl (q.moved hW.alike)) (fun q => Or.inr (q.moved hW.alike))⟩
abbrev gQ : Type := Option Value → sI → sJ → sP → sK → Nat → Prop
def Cx (G : gG) (M : gM) (p : Program) (s : State) (m : MethodId) (args : Array Value) (meth : Method) (c : Code) (n0 : Nat) : Prop :=
  p.tables.exec = Jvm.exec ∧ c.code = M.2.1 ∧ c.maxLocals = M.2.2.1 ∧ meth.sig.returnType = M.2.2.2 ∧ s.vm.findClass M.1.cls = some m.cls ∧ (∀ w ∈ tbG, w.before args s = true) ∧ meth.locks = false ∧ meth.name = M.1.name ∧ va_K G.2.2.1 vwCl (gTys G) s ∧ s.heap.size = gB G + n0 ∧ xtF G s
def lvr (G : gG) (ls : Array Slot) (nL : Nat) (L : List (Option Value)) : Prop := ls.size = nL ∧ L.length = nL ∧ lv_wf ls ∧ ∀ (i : Nat) (v : Value), L[i]? = some (some v) → ls[i]? = some (.val (gV G v))
def gQc (G : gG) (Q : gQ) (n0 : Nat) (K0 : sK) : Array Value → State → Outcome → State → Prop := fun _ _ oc t => ∃ (r : Option Value) (I : sI) (J : sJ) (P : sP) (K : sK) (n : Nat), oc = .returned (r.map (gV G)) ∧ Rep G I J P K n t.heap ∧ (n0 ≤ n ∧ ∀ a, a < n0 → K a = K0 a) ∧ Q r I J P K n
def Ok (G : gG) (d : Nat) (M : gM) (pc : Nat) (L : List (Option Value)) (st : List Value) (I : sI) (J : sJ) (P : sP) (K : sK) (n : Nat) (Q : gQ) : Prop :=
  ∀ (p : Program) (e : Env) (s : State) (m : MethodId) (args : Array Value) (below : List Frame) (meth : Method) (c : Code) (ls : Array Slot) (H : Heap) (locs : List Loc) (n0 : Nat) (K0 : sK),
    Cx G M p s m args meth c n0 → Rep G I J P K n H → lvr G ls M.2.2.1 L → (n0 ≤ n ∧ ∀ a, a < n0 → K a = K0 a) → (∀ q ∈ locs, gB G ≤ q.base) →
    W p G.1 e (gRm d n0 (gS K0 n0)) s m args below meth c H locs (n - n0) (gS K n - gS K n0) (MQ below (gQc G Q n0 K0) args s (601024 - n0) (7293034 - gS K0 n0) (fun a => gB G ≤ a)) (F0 m pc ls (st.map (gV G)))
/-! locals -/
def prs (G : gG) (L : List (Option Value)) : List (Nat × Value) := (List.range L.length).filterMap (fun i => match L[i]? with | some (some v) => some (i, gV G v) | _ => none)
theorem prs_mem {G : gG} {L : List (Option Value)} {i : Nat} {v : Value} (h : L[i]? = some (some v)) : (i, gV G v) ∈ prs G L := by
  refine List.mem_filterMap.mpr ⟨i, List.mem_range.mpr (List.getElem?_eq_some_iff.mp h).1, ?_⟩
  rw [h]
theorem prs_of {G : gG} {L : List (Option Value)} {q : Nat × Value} (h : q ∈ prs G L) : ∃ v, L[q.1]? = some (some v) ∧ q.2 = gV G v := by
  obtain ⟨i, -, hi⟩ := List.mem_filterMap.mp h
  split at hi
  · rename_i v hv
    cases hi
    exact ⟨v, hv, rfl⟩
  · cases hi
theorem lvr_has {G : gG} {ls : Array Slot} {nL : Nat} {L : List (Option Value)} (h : lvr G ls nL L) : lv_has ls nL (prs G L) := ⟨h.1, h.2.2.1, fun q hq => by
  obtain ⟨v, h1, h2⟩ := prs_of hq
  rw [h2]
  exact h.2.2.2 _ _ h1⟩
/-- what is known behind a store of one word -/
def st1 (L : List (Option Value)) (i : Nat) (v : Value) : List (Option Value) := match i with
  | 0 => L.set 0 (some v)
  | k + 1 => match L[k]? with
    | some (some (.long _)) => (L.set k none).set (k + 1) (some v)
    | some (some (.double _)) => (L.set k none).set (k + 1) (some v)
    | _ => L.set (k + 1) (some v)
/-- behind a store of two words -/
def st2 (L : List (Option Value)) (i : Nat) (v : Value) : List (Option Value) := st1 (L.set (i + 1) none) i v
theorem st1_len (L : List (Option Value)) (i : Nat) (v : Value) : (st1 L i v).length = L.length := by
  unfold st1
  split
  · simp
  · split <;> simp
theorem st1_get {L : List (Option Value)} {i : Nat} {v : Value} (hi : i < L.length) {j : Nat} {w : Value} (h : (st1 L i v)[j]? = some (some w)) : (j = i ∧ w = v) ∨ (j ≠ i ∧ L[j]? = some (some w) ∧ ¬ (j + 1 = i ∧ w.category = 2)) := by
  by_cases hj : j = i
  · subst hj
    left
    refine ⟨rfl, ?_⟩
    unfold st1 at h
    split at h
    · simp [hi] at h; exact h.symm
    · split at h <;> (simp [hi] at h; exact h.symm)
  · right
    refine ⟨hj, ?_⟩
    unfold st1 at h
    split at h
    · rename_i i0
      rw [List.getElem?_set_ne (fun e => hj e.symm)] at h
      exact ⟨h, fun q => by omega⟩
    · rename_i k
      split at h
      · rename_i x hx
        rw [List.getElem?_set_ne (fun e => hj e.symm)] at h
        by_cases hk : j = k
        · subst hk
          rw [List.getElem?_set_self (by omega)] at h
          cases h
        · rw [List.getElem?_set_ne (fun e => hk e.symm)] at h
          exact ⟨h, fun q => hk (by omega)⟩
      · rename_i x hx
        rw [List.getElem?_set_ne (fun e => hj e.symm)] at h
        by_cases hk : j = k
        · subst hk
          rw [List.getElem?_set_self (by omega)] at h
          cases h
        · rw [List.getElem?_set_ne (fun e => hk e.symm)] at h
          exact ⟨h, fun q => hk (by omega)⟩
      · rename_i n1 n2
        rw [List.getElem?_set_ne (fun e => hj e.symm)] at h
        refine ⟨h, fun q => ?_⟩
        obtain ⟨q1, q2⟩ := q
        have e : j = k := by omega
        subst e
        cases w with
        | long x => exact n1 x h
        | double x => exact n2 x h
        | _ => simp [Value.category] at q2
theorem lvr_st1 {G : gG} {ls ls' : Array Slot} {nL : Nat} {L : List (Option Value)} {i : Nat} {v : Value} (h : lvr G ls nL L) (hi : i < nL) (h' : lv_has ls' nL ((i, gV G v) :: (prs G L).filter (fun q => !(q.1 == i) && !(q.1 + 1 == i && q.2.category == 2)))) : lvr G ls' nL (st1 L i v) := by
  refine ⟨h'.1, by rw [st1_len]; exact h.2.1, h'.2.1, fun j w hw => ?_⟩
  rcases st1_get (by rw [h.2.1]; exact hi) hw with ⟨e1, e2⟩ | ⟨e1, e2, e3⟩
  · subst e1; subst e2
    exact h'.2.2 (j, gV G w) List.mem_cons_self
  · refine h'.2.2 (j, gV G w) (List.mem_cons_of_mem _ (List.mem_filter.mpr ⟨prs_mem e2, ?_⟩))
    simp only [gV_cat, Bool.and_eq_true, Bool.not_eq_true', beq_eq_false_iff_ne, ne_eq, Bool.and_eq_false_iff]
    refine ⟨e1, ?_⟩
    by_cases q : j + 1 = i
    · exact Or.inr (fun q2 => e3 ⟨q, q2⟩)
    · exact Or.inl q
theorem lvr_st2 {G : gG} {ls ls' : Array Slot} {nL : Nat} {L : List (Option Value)} {i : Nat} {v : Value} (h : lvr G ls nL L) (hi : i + 1 < nL) (h' : lv_has ls' nL ((i, gV G v) :: (prs G L).filter (fun q => !(q.1 == i) && (!(q.1 == i + 1) && !(q.1 + 1 == i && q.2.category == 2))))) : lvr G ls' nL (st2 L i v) := by
  refine ⟨h'.1, by unfold st2; rw [st1_len, List.length_set]; exact h.2.1, h'.2.1, fun j w hw => ?_⟩
  unfold st2 at hw
  rcases st1_get (by rw [List.length_set, h.2.1]; omega) hw with ⟨e1, e2⟩ | ⟨e1, e2, e3⟩
  · subst e1; subst e2
    exact h'.2.2 (j, gV G w) List.mem_cons_self
  · by_cases hj : j = i + 1
    · subst hj
      rw [List.getElem?_set_self (by rw [h.2.1]; exact hi)] at e2
      cases e2
    · rw [List.getElem?_set_ne (fun e => hj e.symm)] at e2
      refine h'.2.2 (j, gV G w) (List.mem_cons_of_mem _ (List.mem_filter.mpr ⟨prs_mem e2, ?_⟩))
      simp only [gV_cat, Bool.and_eq_true, Bool.not_eq_true', beq_eq_false_iff_ne, ne_eq, Bool.and_eq_false_iff]
      refine ⟨e1, hj, ?_⟩
      by_cases q : j + 1 = i
      · exact Or.inr (fun q2 => e3 ⟨q, q2⟩)
      · exact Or.inl q
