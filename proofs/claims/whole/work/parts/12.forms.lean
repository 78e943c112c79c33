/-! forms of what a method comes to; kI, kV, kL: references, kinds and cells stay -/
def qI (F : Int32 → sI → sJ → sP → sK → Nat → Prop) : gQ := fun r I J P K n => ∃ v : Int32, r = some (.int v) ∧ F v I J P K n
def qL (F : Int64 → sI → sJ → sP → sK → Nat → Prop) : gQ := fun r I J P K n => ∃ v : Int64, r = some (.long v) ∧ F v I J P K n
def qV (F : sI → sJ → sP → sK → Nat → Prop) : gQ := fun r I J P K n => r = none ∧ F I J P K n
def kI (P : sP) (K : sK) (n : Nat) (F : Int32 → sI → sJ → Prop) : gQ := fun r I J P' K' n' => (P' = P ∧ K' = K ∧ n' = n) ∧ ∃ v : Int32, r = some (.int v) ∧ F v I J
def kL (P : sP) (K : sK) (n : Nat) (F : Int64 → sI → sJ → Prop) : gQ := fun r I J P' K' n' => (P' = P ∧ K' = K ∧ n' = n) ∧ ∃ v : Int64, r = some (.long v) ∧ F v I J
def kV (P : sP) (K : sK) (n : Nat) (F : sI → sJ → Prop) : gQ := fun r I J P' K' n' => (P' = P ∧ K' = K ∧ n' = n) ∧ r = none ∧ F I J
def cqI (G : gG) (d : Nat) (M : gM) (As : List Value) (I : sI) (J : sJ) (P : sP) (K : sK) (n : Nat) (F : Int32 → sI → sJ → sP → sK → Nat → Prop) : Prop := Ok G d M 0 (entL M.2.2.1 As) [] I J P K n (qI F)
def cqV (G : gG) (d : Nat) (M : gM) (As : List Value) (I : sI) (J : sJ) (P : sP) (K : sK) (n : Nat) (F : sI → sJ → sP → sK → Nat → Prop) : Prop := Ok G d M 0 (entL M.2.2.1 As) [] I J P K n (qV F)
def ckI (G : gG) (d : Nat) (M : gM) (As : List Value) (I : sI) (J : sJ) (P : sP) (K : sK) (n : Nat) (F : Int32 → sI → sJ → Prop) : Prop := Ok G d M 0 (entL M.2.2.1 As) [] I J P K n (kI P K n F)
def ckL (G : gG) (d : Nat) (M : gM) (As : List Value) (I : sI) (J : sJ) (P : sP) (K : sK) (n : Nat) (F : Int64 → sI → sJ → Prop) : Prop := Ok G d M 0 (entL M.2.2.1 As) [] I J P K n (kL P K n F)
def ckV (G : gG) (d : Nat) (M : gM) (As : List Value) (I : sI) (J : sJ) (P : sP) (K : sK) (n : Nat) (F : sI → sJ → Prop) : Prop := Ok G d M 0 (entL M.2.2.1 As) [] I J P K n (kV P K n F)
section Forms
variable {G : gG} {d : Nat} {M : gM} {pc : Nat} {L : List (Option Value)} {st : List Value} {I I' : sI} {J J' : sJ} {P P' : sP} {K : sK} {n : Nat} {Q Q' : gQ}
theorem W_mono {p : Program} {l : Launch} {e : Env} {R : Room} {s : State} {m : MethodId} {args : Array Value} {below : List Frame} {meth : Method} {c : Code} {H : Heap} {locs : List Loc} {cells slots : Nat} {Qa Qb : State → Prop} {g : JFrame} (hq : ∀ t, Qa t → Qb t) (h : W p l e R s m args below meth c H locs cells slots Qa g) : W p l e R s m args below meth c H locs cells slots Qb g := by
  intro T hT X
  obtain ⟨t, a, b⟩ := h T hT X
  exact ⟨t, a, hq t b⟩
theorem ok_mono (hq : ∀ r I J P K n, Q r I J P K n → Q' r I J P K n) (h : Ok G d M pc L st I J P K n Q) : Ok G d M pc L st I J P K n Q' := by
  intro p e s m args below meth c ls H locs n0 K0 C R hl hg hq'
  refine W_mono (fun t ht => ?_) (h p e s m args below meth c ls H locs n0 K0 C R hl hg hq')
  obtain ⟨o, h1, h2, ⟨r, I', J', P', K', n', g1, g2, g3, g4⟩, h4⟩ := ht
  exact ⟨o, h1, h2, ⟨r, I', J', P', K', n', g1, g2, g3, hq _ _ _ _ _ _ g4⟩, h4⟩
/-- less may be known of the locals -/
theorem ok_less {L' : List (Option Value)} (hn : L'.length = L.length) (hs : ∀ (i : Nat) (v : Value), L'[i]? = some (some v) → L[i]? = some (some v)) (h : Ok G d M pc L' st I J P K n Q) : Ok G d M pc L st I J P K n Q := by
  intro p e s m args below meth c ls H locs n0 K0 C R hl hg hq
  exact h p e s m args below meth c ls H locs n0 K0 C R ⟨hl.1, hn.trans hl.2.1, hl.2.2.1, fun i v hv => hl.2.2.2 i v (hs i v hv)⟩ hg hq
def lessB : List (Option Value) → List (Option Value) → Prop
  | [], [] => True
  | none :: a, _ :: b => lessB a b
  | some v :: a, w :: b => w = some v ∧ lessB a b
  | _, _ => False
theorem lessB_ok : ∀ (a b : List (Option Value)), lessB a b → a.length = b.length ∧ ∀ (i : Nat) (v : Value), a[i]? = some (some v) → b[i]? = some (some v) := by
  intro a
  induction a with
  | nil => intro b h; cases b with
    | nil => exact ⟨rfl, fun i v hv => by simp at hv⟩
    | cons x y => exact h.elim
  | cons x xs ih =>
    intro b h
    cases b with
    | nil => cases x <;> exact h.elim
    | cons y ys =>
      cases x with
      | none =>
        obtain ⟨h1, h2⟩ := ih ys h
        refine ⟨by simp [h1], fun i v hv => ?_⟩
        cases i with
        | zero => cases hv
        | succ i => exact h2 i v hv
      | some w =>
        obtain ⟨h0, h⟩ := h
        obtain ⟨h1, h2⟩ := ih ys h
        refine ⟨by simp [h1], fun i v hv => ?_⟩
        cases i with
        | zero => rw [h0]; exact hv
        | succ i => exact h2 i v hv
theorem ok_lessB {L' : List (Option Value)} (hs : lessB L' L) (h : Ok G d M pc L' st I J P K n Q) : Ok G d M pc L st I J P K n Q := ok_less (lessB_ok _ _ hs).1 (lessB_ok _ _ hs).2 h
theorem ckI_mono {As : List Value} {F F' : Int32 → sI → sJ → Prop} (hq : ∀ v I J, F v I J → F' v I J) (h : ckI G d M As I J P K n F) : ckI G d M As I J P K n F' := ok_mono (fun _ _ _ _ _ _ ⟨e, v, e2, q⟩ => ⟨e, v, e2, hq _ _ _ q⟩) h
theorem ckL_mono {As : List Value} {F F' : Int64 → sI → sJ → Prop} (hq : ∀ v I J, F v I J → F' v I J) (h : ckL G d M As I J P K n F) : ckL G d M As I J P K n F' := ok_mono (fun _ _ _ _ _ _ ⟨e, v, e2, q⟩ => ⟨e, v, e2, hq _ _ _ q⟩) h
theorem ckV_mono {As : List Value} {F F' : sI → sJ → Prop} (hq : ∀ I J, F I J → F' I J) (h : ckV G d M As I J P K n F) : ckV G d M As I J P K n F' := ok_mono (fun _ _ _ _ _ _ ⟨e, e2, q⟩ => ⟨e, e2, hq _ _ q⟩) h
theorem cqI_mono {As : List Value} {F F' : Int32 → sI → sJ → sP → sK → Nat → Prop} (hq : ∀ v I J P K n, F v I J P K n → F' v I J P K n) (h : cqI G d M As I J P K n F) : cqI G d M As I J P K n F' := ok_mono (fun _ _ _ _ _ _ ⟨v, e2, q⟩ => ⟨v, e2, hq _ _ _ _ _ _ q⟩) h
theorem cqV_mono {As : List Value} {F F' : sI → sJ → sP → sK → Nat → Prop} (hq : ∀ I J P K n, F I J P K n → F' I J P K n) (h : cqV G d M As I J P K n F) : cqV G d M As I J P K n F' := ok_mono (fun _ _ _ _ _ _ ⟨e2, q⟩ => ⟨e2, hq _ _ _ _ _ q⟩) h
/-- a callee's words at a call -/
def LkV (own : String) (idx : Nat) (M' : gM) (np ci : Nat) (q : vw_C) : Prop := MI M' np ∧ Cond.methodLink own idx M'.1 ∈ tbG ∧ Cond.instanceMethod M'.1 ∈ tbG ∧ Cond.selects M'.1.cls M'.1 M'.1 ∈ tbG ∧ vwCl[ci]? = some q ∧ ci < 13 ∧ M'.1.cls = q.1
def LkS (own : String) (idx : Nat) (M' : gM) (np : Nat) : Prop := MI M' np ∧ Cond.methodLink own idx M'.1 ∈ tbG ∧ Cond.static M'.1 ∈ tbG
def LkI (own : String) (idx : Nat) (M' : gM) (np : Nat) : Prop := MI M' np ∧ Cond.methodLink own idx M'.1 ∈ tbG ∧ Cond.instanceMethod M'.1 ∈ tbG ∧ M'.1.name = "<init>" ∧ M'.2.2.2 = none
variable {M' : gM} {np idx ci b : Nat} {q : vw_C} {As rest : List Value}
theorem ok_Vk (hd : decode M.2.1 pc = .ok (.invokevirtual idx, 3)) (hL : LkV M.1.cls idx M' np ci q) (hn : As.length = np) (hst : st = As.reverse ++ .ref b :: rest) (hcat : (rest.map fun v => v.category).sum ≤ 8) (hlen : (entV (.ref b :: As)).length ≤ M'.2.2.1)
    (hk : (K b).1 = ci) (h : Ok G d M' 0 (entL M'.2.2.1 (.ref b :: As)) [] I J P K n (fun r I' J' P' K' n' => Ok G (d + 1) M (pc + 3) L (r.toList ++ rest) I' J' P' K' n' Q)) : Ok G (d + 1) M pc L st I J P K n Q :=
  ok_callV hd hL.1 hL.2.1 hL.2.2.1 hL.2.2.2.1 hL.2.2.2.2.1 hL.2.2.2.2.2.1 hL.2.2.2.2.2.2 hn hst hcat hlen ⟨hk, h⟩
theorem ok_VkI (hd : decode M.2.1 pc = .ok (.invokevirtual idx, 3)) (hL : LkV M.1.cls idx M' np ci q) (hn : As.length = np) (hst : st = As.reverse ++ .ref b :: rest) (hcat : (rest.map fun v => v.category).sum ≤ 8) (hlen : (entV (.ref b :: As)).length ≤ M'.2.2.1)
    (hk : (K b).1 = ci) (h : ckI G d M' (.ref b :: As) I J P K n (fun v I J => Ok G (d + 1) M (pc + 3) L (.int v :: rest) I J P K n Q)) : Ok G (d + 1) M pc L st I J P K n Q :=
  ok_Vk hd hL hn hst hcat hlen hk (ok_mono (fun _ _ _ _ _ _ ⟨⟨e1, e2, e3⟩, v, e4, h⟩ => by subst e1; subst e2; subst e3; subst e4; exact h) h)
theorem ok_VkL (hd : decode M.2.1 pc = .ok (.invokevirtual idx, 3)) (hL : LkV M.1.cls idx M' np ci q) (hn : As.length = np) (hst : st = As.reverse ++ .ref b :: rest) (hcat : (rest.map fun v => v.category).sum ≤ 8) (hlen : (entV (.ref b :: As)).length ≤ M'.2.2.1)
    (hk : (K b).1 = ci) (h : ckL G d M' (.ref b :: As) I J P K n (fun v I J => Ok G (d + 1) M (pc + 3) L (.long v :: rest) I J P K n Q)) : Ok G (d + 1) M pc L st I J P K n Q :=
  ok_Vk hd hL hn hst hcat hlen hk (ok_mono (fun _ _ _ _ _ _ ⟨⟨e1, e2, e3⟩, v, e4, h⟩ => by subst e1; subst e2; subst e3; subst e4; exact h) h)
theorem ok_VkV (hd : decode M.2.1 pc = .ok (.invokevirtual idx, 3)) (hL : LkV M.1.cls idx M' np ci q) (hn : As.length = np) (hst : st = As.reverse ++ .ref b :: rest) (hcat : (rest.map fun v => v.category).sum ≤ 8) (hlen : (entV (.ref b :: As)).length ≤ M'.2.2.1)
    (hk : (K b).1 = ci) (h : ckV G d M' (.ref b :: As) I J P K n (fun I J => Ok G (d + 1) M (pc + 3) L rest I J P K n Q)) : Ok G (d + 1) M pc L st I J P K n Q :=
  ok_Vk hd hL hn hst hcat hlen hk (ok_mono (fun _ _ _ _ _ _ ⟨⟨e1, e2, e3⟩, e4, h⟩ => by subst e1; subst e2; subst e3; subst e4; exact h) h)
theorem ok_VqI (hd : decode M.2.1 pc = .ok (.invokevirtual idx, 3)) (hL : LkV M.1.cls idx M' np ci q) (hn : As.length = np) (hst : st = As.reverse ++ .ref b :: rest) (hcat : (rest.map fun v => v.category).sum ≤ 8) (hlen : (entV (.ref b :: As)).length ≤ M'.2.2.1)
    (hk : (K b).1 = ci) (h : cqI G d M' (.ref b :: As) I J P K n (fun v I J P K n => Ok G (d + 1) M (pc + 3) L (.int v :: rest) I J P K n Q)) : Ok G (d + 1) M pc L st I J P K n Q :=
  ok_Vk hd hL hn hst hcat hlen hk (ok_mono (fun _ _ _ _ _ _ ⟨v, e4, h⟩ => by subst e4; exact h) h)
theorem ok_VqV (hd : decode M.2.1 pc = .ok (.invokevirtual idx, 3)) (hL : LkV M.1.cls idx M' np ci q) (hn : As.length = np) (hst : st = As.reverse ++ .ref b :: rest) (hcat : (rest.map fun v => v.category).sum ≤ 8) (hlen : (entV (.ref b :: As)).length ≤ M'.2.2.1)
    (hk : (K b).1 = ci) (h : cqV G d M' (.ref b :: As) I J P K n (fun I J P K n => Ok G (d + 1) M (pc + 3) L rest I J P K n Q)) : Ok G (d + 1) M pc L st I J P K n Q :=
  ok_Vk hd hL hn hst hcat hlen hk (ok_mono (fun _ _ _ _ _ _ ⟨e4, h⟩ => by subst e4; exact h) h)
theorem ok_SkI (hd : decode M.2.1 pc = .ok (.invokestatic idx, 3)) (hL : LkS M.1.cls idx M' np) (hn : As.length = np) (hst : st = As.reverse ++ rest) (hcat : (rest.map fun v => v.category).sum ≤ 8) (hlen : (entV As).length ≤ M'.2.2.1)
    (h : ckI G d M' As I J P K n (fun v I J => Ok G (d + 1) M (pc + 3) L (.int v :: rest) I J P K n Q)) : Ok G (d + 1) M pc L st I J P K n Q :=
  ok_callS hd hL.1 hL.2.1 hL.2.2 hn hst hcat hlen (ok_mono (fun _ _ _ _ _ _ ⟨⟨e1, e2, e3⟩, v, e4, h⟩ => by subst e1; subst e2; subst e3; subst e4; exact h) h)
theorem ok_SkL (hd : decode M.2.1 pc = .ok (.invokestatic idx, 3)) (hL : LkS M.1.cls idx M' np) (hn : As.length = np) (hst : st = As.reverse ++ rest) (hcat : (rest.map fun v => v.category).sum ≤ 8) (hlen : (entV As).length ≤ M'.2.2.1)
    (h : ckL G d M' As I J P K n (fun v I J => Ok G (d + 1) M (pc + 3) L (.long v :: rest) I J P K n Q)) : Ok G (d + 1) M pc L st I J P K n Q :=
  ok_callS hd hL.1 hL.2.1 hL.2.2 hn hst hcat hlen (ok_mono (fun _ _ _ _ _ _ ⟨⟨e1, e2, e3⟩, v, e4, h⟩ => by subst e1; subst e2; subst e3; subst e4; exact h) h)
theorem ok_SkV (hd : decode M.2.1 pc = .ok (.invokestatic idx, 3)) (hL : LkS M.1.cls idx M' np) (hn : As.length = np) (hst : st = As.reverse ++ rest) (hcat : (rest.map fun v => v.category).sum ≤ 8) (hlen : (entV As).length ≤ M'.2.2.1)
    (h : ckV G d M' As I J P K n (fun I J => Ok G (d + 1) M (pc + 3) L rest I J P K n Q)) : Ok G (d + 1) M pc L st I J P K n Q :=
  ok_callS hd hL.1 hL.2.1 hL.2.2 hn hst hcat hlen (ok_mono (fun _ _ _ _ _ _ ⟨⟨e1, e2, e3⟩, e4, h⟩ => by subst e1; subst e2; subst e3; subst e4; exact h) h)
theorem ok_IqV (hd : decode M.2.1 pc = .ok (.invokespecial idx, 3)) (hL : LkI M.1.cls idx M' np) (hn : As.length = np) (hst : st = As.reverse ++ .ref b :: rest) (hcat : (rest.map fun v => v.category).sum ≤ 8) (hlen : (entV (.ref b :: As)).length ≤ M'.2.2.1)
    (h : cqV G d M' (.ref b :: As) I J P K n (fun I J P K n => Ok G (d + 1) M (pc + 3) L rest I J P K n Q)) : Ok G (d + 1) M pc L st I J P K n Q :=
  ok_callI hd hL.1 hL.2.1 hL.2.2.1 hL.2.2.2.1 hL.2.2.2.2 hn hst hcat hlen (ok_mono (fun _ _ _ _ _ _ ⟨e4, h⟩ => by subst e4; exact h) h)
theorem ok_iincV {k : Nat} {z : Int} {x : Int32} (v : Int32) (hd : decode M.2.1 pc = .ok (.iinc k z, 3)) (hi : k < M.2.2.1) (hl : L[k]? = some (some (.int x))) (he : x + Int32.ofInt z = v) (h : Ok G d M (pc + 3) (st1 L k (.int v)) st I J P K n Q) : Ok G d M pc L st I J P K n Q := by
  subst he
  exact ok_iinc hd hi hl h
theorem ok_lconstV {k : Fin 2} (v : Int64) (hd : decode M.2.1 pc = .ok (.lconst k, 1)) (he : Int64.ofNat (k : Nat) = v) (h : Ok G d M (pc + 1) L (.long v :: st) I J P K n Q) : Ok G d M pc L st I J P K n Q := by
  subst he
  exact ok_lconst hd h
theorem ok_getIV {ci j idx a : Nat} {q : vw_C} (v : Int32) (hd : decode M.2.1 pc = .ok (.getfield idx, 3)) (hF : FI M.1.cls idx ci j q) (ht : gTy ci j = .int ∨ gTy ci j = .boolean) (hk : (K a).1 = ci) (he : I a j = v) (h : Ok G d M (pc + 3) L (.int v :: st) I J P K n Q) : Ok G d M pc L (.ref a :: st) I J P K n Q := by
  subst he
  exact ok_getI hd hF ht ⟨hk, h⟩
theorem ok_getJV {ci j idx a : Nat} {q : vw_C} (v : Int64) (hd : decode M.2.1 pc = .ok (.getfield idx, 3)) (hF : FI M.1.cls idx ci j q) (ht : gTy ci j = .long) (hk : (K a).1 = ci) (he : J a j = v) (h : Ok G d M (pc + 3) L (.long v :: st) I J P K n Q) : Ok G d M pc L (.ref a :: st) I J P K n Q := by
  subst he
  exact ok_getJ hd hF ht ⟨hk, h⟩
end Forms
theorem tbm (i : Nat) {w : Cond} (h : tables_1[i]? = some w) (hg : goodWord w = true) : w ∈ tbG := List.mem_filter.mpr ⟨List.mem_append_right _ (List.mem_of_getElem? h), hg⟩
theorem tbs (i : Nat) {w : Cond} (h : (k2_sels lw_privs)[i]? = some w) (hg : goodWord w = true) : w ∈ tbG := List.mem_filter.mpr ⟨List.mem_append_left _ (List.mem_of_getElem? h), hg⟩
