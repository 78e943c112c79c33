/-! the law's own judgement: one thing more is known of the state that it began in -/
def OkS (S : State → Prop) (G : gG) (d : Nat) (M : gM) (pc : Nat) (L : List (Option Value)) (st : List Value) (I : sI) (J : sJ) (P : sP) (K : sK) (n : Nat) (Q : gQ) : Prop :=
  ∀ (p : Program) (e : Env) (s : State) (m : MethodId) (args : Array Value) (below : List Frame) (meth : Method) (c : Code) (ls : Array Slot) (H : Heap) (locs : List Loc) (n0 : Nat) (K0 : sK),
    Cx G M p s m args meth c n0 → S s → Rep G I J P K n H → lvr G ls M.2.2.1 L → (n0 ≤ n ∧ ∀ a, a < n0 → K a = K0 a) → (∀ q ∈ locs, gB G ≤ q.base) →
    W p G.1 e (gRm d n0 (gS K0 n0)) s m args below meth c H locs (n - n0) (gS K n - gS K n0) (MQ below (gQc G Q n0 K0) args s (601024 - n0) (7293034 - gS K0 n0) (fun a => gB G ≤ a)) (F0 m pc ls (st.map (gV G)))
section OkSs
variable {S : State → Prop} {G : gG} {d : Nat} {M : gM} {pc : Nat} {L : List (Option Value)} {st : List Value} {I I' : sI} {J J' : sJ} {P P' : sP} {K : sK} {n : Nat} {Q : gQ}
theorem okS_aload_n {k : Fin 4} {x : Nat} (hd : decode M.2.1 pc = .ok (.aload_n k, 1)) (hl : L[(k : Nat)]? = some (some (.ref x))) (h : OkS S G d M (pc + 1) L (.ref x :: st) I J P K n Q) : OkS S G d M pc L st I J P K n Q :=
  fun p e s m args below meth c ls H locs n0 K0 C tb R hv hg hq => lv_aload_n C.1 C.2.1 hd rfl (hv.2.2.2 _ _ hl) (h p e s m args below meth c ls H locs n0 K0 C tb R hv hg hq)
theorem okS_iload {k : Nat} {x : Int32} (hd : decode M.2.1 pc = .ok (.iload k, 2)) (hl : L[k]? = some (some (.int x))) (h : OkS S G d M (pc + 2) L (.int x :: st) I J P K n Q) : OkS S G d M pc L st I J P K n Q :=
  fun p e s m args below meth c ls H locs n0 K0 C tb R hv hg hq => lv_iload C.1 C.2.1 hd (hv.2.2.2 _ _ hl) (h p e s m args below meth c ls H locs n0 K0 C tb R hv hg hq)
theorem okS_iconstV {k : Int} (v : Int32) (hd : decode M.2.1 pc = .ok (.iconst k, 1)) (he : Int32.ofInt k = v) (h : OkS S G d M (pc + 1) L (.int v :: st) I J P K n Q) : OkS S G d M pc L st I J P K n Q :=
  fun p e s m args below meth c ls H locs n0 K0 C tb R hv hg hq => lv_iconst C.1 C.2.1 hd he (h p e s m args below meth c ls H locs n0 K0 C tb R hv hg hq)
theorem okS_bipushV {k : Int} (v : Int32) (hd : decode M.2.1 pc = .ok (.bipush k, 2)) (he : (Int8.ofInt k).toInt32 = v) (h : OkS S G d M (pc + 2) L (.int v :: st) I J P K n Q) : OkS S G d M pc L st I J P K n Q :=
  fun p e s m args below meth c ls H locs n0 K0 C tb R hv hg hq => lv_bipush C.1 C.2.1 hd he (h p e s m args below meth c ls H locs n0 K0 C tb R hv hg hq)
theorem okS_iadd {x y : Int32} (hd : decode M.2.1 pc = .ok (.iadd, 1)) (h : OkS S G d M (pc + 1) L (.int (x + y) :: st) I J P K n Q) : OkS S G d M pc L (.int y :: .int x :: st) I J P K n Q :=
  fun p e s m args below meth c ls H locs n0 K0 C tb R hv hg hq => lv_iadd C.1 C.2.1 hd (h p e s m args below meth c ls H locs n0 K0 C tb R hv hg hq)
theorem okS_isub {x y : Int32} (hd : decode M.2.1 pc = .ok (.isub, 1)) (h : OkS S G d M (pc + 1) L (.int (x - y) :: st) I J P K n Q) : OkS S G d M pc L (.int y :: .int x :: st) I J P K n Q :=
  fun p e s m args below meth c ls H locs n0 K0 C tb R hv hg hq => lv_isub C.1 C.2.1 hd (h p e s m args below meth c ls H locs n0 K0 C tb R hv hg hq)
theorem okS_iand {x y : Int32} (hd : decode M.2.1 pc = .ok (.iand, 1)) (h : OkS S G d M (pc + 1) L (.int (x &&& y) :: st) I J P K n Q) : OkS S G d M pc L (.int y :: .int x :: st) I J P K n Q :=
  fun p e s m args below meth c ls H locs n0 K0 C tb R hv hg hq => lv_iand C.1 C.2.1 hd (h p e s m args below meth c ls H locs n0 K0 C tb R hv hg hq)
theorem okS_icmp_gt {off : Int} {x y : Int32} (tgt : Nat) (hd : decode M.2.1 pc = .ok (.if_icmp .gt off, 3)) (ht : (pc : Int) + off = (tgt : Int)) (h : ((y < x) → OkS S G d M tgt L st I J P K n Q) ∧ (¬ (y < x) → OkS S G d M (pc + 3) L st I J P K n Q)) : OkS S G d M pc L (.int y :: .int x :: st) I J P K n Q :=
  fun p e s m args below meth c ls H locs n0 K0 C tb R hv hg hq => lv_icmp_gt C.1 C.2.1 hd ht (fun q => h.1 q p e s m args below meth c ls H locs n0 K0 C tb R hv hg hq) (fun q => h.2 q p e s m args below meth c ls H locs n0 K0 C tb R hv hg hq)
theorem okS_icmp_eq {off : Int} {x y : Int32} (tgt : Nat) (hd : decode M.2.1 pc = .ok (.if_icmp .eq off, 3)) (ht : (pc : Int) + off = (tgt : Int)) (h : ((x = y) → OkS S G d M tgt L st I J P K n Q) ∧ (¬ (x = y) → OkS S G d M (pc + 3) L st I J P K n Q)) : OkS S G d M pc L (.int y :: .int x :: st) I J P K n Q :=
  fun p e s m args below meth c ls H locs n0 K0 C tb R hv hg hq => lv_icmp_eq C.1 C.2.1 hd ht (fun q => h.1 q p e s m args below meth c ls H locs n0 K0 C tb R hv hg hq) (fun q => h.2 q p e s m args below meth c ls H locs n0 K0 C tb R hv hg hq)
theorem okS_if_ne {off : Int} {x : Int32} (tgt : Nat) (hd : decode M.2.1 pc = .ok (.ifCond .ne off, 3)) (ht : (pc : Int) + off = (tgt : Int)) (h : (x = 0 → OkS S G d M (pc + 3) L st I J P K n Q) ∧ (¬ x = 0 → OkS S G d M tgt L st I J P K n Q)) : OkS S G d M pc L (.int x :: st) I J P K n Q :=
  fun p e s m args below meth c ls H locs n0 K0 C tb R hv hg hq => lv_if_ne C.1 C.2.1 hd ht (fun q => h.2 q p e s m args below meth c ls H locs n0 K0 C tb R hv hg hq) (fun q => h.1 q p e s m args below meth c ls H locs n0 K0 C tb R hv hg hq)
theorem okS_if_eq {off : Int} {x : Int32} (tgt : Nat) (hd : decode M.2.1 pc = .ok (.ifCond .eq off, 3)) (ht : (pc : Int) + off = (tgt : Int)) (h : ((x = 0) → OkS S G d M tgt L st I J P K n Q) ∧ (¬ (x = 0) → OkS S G d M (pc + 3) L st I J P K n Q)) : OkS S G d M pc L (.int x :: st) I J P K n Q :=
  fun p e s m args below meth c ls H locs n0 K0 C tb R hv hg hq => lv_if_eq C.1 C.2.1 hd ht (fun q => h.1 q p e s m args below meth c ls H locs n0 K0 C tb R hv hg hq) (fun q => h.2 q p e s m args below meth c ls H locs n0 K0 C tb R hv hg hq)
theorem okS_goto {off : Int} (tgt : Nat) (hd : decode M.2.1 pc = .ok (.goto off, 3)) (ht : (pc : Int) + off = (tgt : Int)) (h : OkS S G d M tgt L st I J P K n Q) : OkS S G d M pc L st I J P K n Q :=
  fun p e s m args below meth c ls H locs n0 K0 C tb R hv hg hq => lv_goto C.1 C.2.1 hd ht (h p e s m args below meth c ls H locs n0 K0 C tb R hv hg hq)
theorem okS_tswI {dflt lo hi : Int} {offs : Array Int} {len : Nat} {x : Int32} {off : Int} (tgt : Nat) (v : Int32) (hd : decode M.2.1 pc = .ok (.tableswitch dflt lo hi offs, len)) (hx : x = v) (h1 : (decide (v.toInt < lo) || decide (hi < v.toInt)) = false) (ho : offs[(v.toInt - lo).toNat]? = some off) (ht : (pc : Int) + off = (tgt : Int)) (h : OkS S G d M tgt L st I J P K n Q) : OkS S G d M pc L (.int x :: st) I J P K n Q := by
  subst hx
  have h2 : ¬ x.toInt < lo := by intro q; simp [q] at h1
  have h3 : ¬ hi < x.toInt := by intro q; simp [q] at h1
  exact fun p e s m args below meth c ls H locs n0 K0 C tb R hv hg hq => lv_tableIn C.1 C.2.1 hd h2 h3 ho ht (h p e s m args below meth c ls H locs n0 K0 C tb R hv hg hq)
theorem okS_tswD {dflt lo hi : Int} {offs : Array Int} {len : Nat} {x : Int32} (tgt : Nat) (ws : List Int32) (hd : decode M.2.1 pc = .ok (.tableswitch dflt lo hi offs, len)) (hn : ∀ v ∈ ws, x ≠ v) (hw : (List.range (hi - lo + 1).toNat).all (fun j => ws.any (fun v => decide (v.toInt = lo + j))) = true) (ht : (pc : Int) + dflt = (tgt : Int)) (h : OkS S G d M tgt L st I J P K n Q) : OkS S G d M pc L (.int x :: st) I J P K n Q :=
  fun p e s m args below meth c ls H locs n0 K0 C tb R hv hg hq => lv_tableOut C.1 C.2.1 hd (tsw_out ws hn hw) ht (h p e s m args below meth c ls H locs n0 K0 C tb R hv hg hq)
theorem okS_istore {k : Nat} {x : Int32} (hd : decode M.2.1 pc = .ok (.istore k, 2)) (hi : k < M.2.2.1) (h : OkS S G d M (pc + 2) (st1 L k (.int x)) st I J P K n Q) : OkS S G d M pc L (.int x :: st) I J P K n Q :=
  fun p e s m args below meth c ls H locs n0 K0 C tb R hv hg hq => lv_istore C.1 C.2.1 hd (lvr_has hv) hi rfl (fun ls2 h2 => h p e s m args below meth c ls2 H locs n0 K0 C tb R (lvr_st1 hv hi h2) hg hq)
theorem okS_astore_n {k : Fin 4} {x : Nat} (hd : decode M.2.1 pc = .ok (.astore_n k, 1)) (hi : (k : Nat) < M.2.2.1) (h : OkS S G d M (pc + 1) (st1 L (k : Nat) (.ref x)) st I J P K n Q) : OkS S G d M pc L (.ref x :: st) I J P K n Q :=
  fun p e s m args below meth c ls H locs n0 K0 C tb R hv hg hq => lv_astore_n C.1 C.2.1 hd rfl (lvr_has hv) hi rfl (fun ls2 h2 => h p e s m args below meth c ls2 H locs n0 K0 C tb R (lvr_st1 hv hi h2) hg hq)
theorem okS_iinc {k : Nat} {z : Int} {x : Int32} (hd : decode M.2.1 pc = .ok (.iinc k z, 3)) (hi : k < M.2.2.1) (hl : L[k]? = some (some (.int x))) (h : OkS S G d M (pc + 3) (st1 L k (.int (x + Int32.ofInt z))) st I J P K n Q) : OkS S G d M pc L st I J P K n Q := by
  intro p e s m args below meth c ls H locs n0 K0 C tb R hv hg hq
  obtain ⟨j, hj⟩ := prs_at (G := G) hl
  exact lv_iinc C.1 C.2.1 hd (lvr_has hv) hj rfl hi rfl (fun ls2 h2 => h p e s m args below meth c ls2 H locs n0 K0 C tb R (lvr_st1 (v := .int (x + Int32.ofInt z)) hv hi h2) hg hq)
theorem okS_iincV {k : Nat} {z : Int} {x : Int32} (v : Int32) (hd : decode M.2.1 pc = .ok (.iinc k z, 3)) (hi : k < M.2.2.1) (hl : L[k]? = some (some (.int x))) (he : x + Int32.ofInt z = v) (h : OkS S G d M (pc + 3) (st1 L k (.int v)) st I J P K n Q) : OkS S G d M pc L st I J P K n Q := by
  subst he
  exact okS_iinc hd hi hl h
theorem okS_i2l {x : Int32} (hd : decode M.2.1 pc = .ok (.i2l, 1)) (h : OkS S G d M (pc + 1) L (.long x.toInt64 :: st) I J P K n Q) : OkS S G d M pc L (.int x :: st) I J P K n Q :=
  fun p e s m args below meth c ls H locs n0 K0 C tb R hv hg hq => lv_i2l C.1 C.2.1 hd rfl (h p e s m args below meth c ls H locs n0 K0 C tb R hv hg hq)
theorem okS_lcmp {x y : Int64} (hd : decode M.2.1 pc = .ok (.lcmp, 1)) (h : OkS S G d M (pc + 1) L (.int (lg_cmp x y) :: st) I J P K n Q) : OkS S G d M pc L (.long y :: .long x :: st) I J P K n Q :=
  fun p e s m args below meth c ls H locs n0 K0 C tb R hv hg hq => W.lcmp C.1 C.2.1 hd (h p e s m args below meth c ls H locs n0 K0 C tb R hv hg hq)
theorem okS_dup {v : Value} (hd : decode M.2.1 pc = .ok (.dup, 1)) (hc : v.category = 1) (h : OkS S G d M (pc + 1) L (v :: v :: st) I J P K n Q) : OkS S G d M pc L (v :: st) I J P K n Q :=
  fun p e s m args below meth c ls H locs n0 K0 C tb R hv hg hq => lv_dup C.1 C.2.1 hd ((gV_cat G v).trans hc) (h p e s m args below meth c ls H locs n0 K0 C tb R hv hg hq)
theorem okS_laload {a : Nat} {i : Int32} (hd : decode M.2.1 pc = .ok (.laload, 1)) (h : (K a).1 = 14 ∧ vp_in i (K a).2 ∧ OkS S G d M (pc + 1) L (.long (J a i.toNatClampNeg) :: st) I J P K n Q) : OkS S G d M pc L (.int i :: .ref a :: st) I J P K n Q := by
  intro p e s m args below meth c ls H locs n0 K0 C tb R hl hg hq
  obtain ⟨h1, h2, h3⟩ := h
  have q1 := rep_arr R (t := 1) h1 (by decide)
  have had : gAd G a = gB G + a := rep_ad R (rep_lt R (by omega))
  obtain ⟨hx, hb, hml, hret, hown, hts, hlk, hnm, hK, hsz, hxt⟩ := id C
  exact W.lald (v := .long (J a i.toNatClampNeg)) hx hb (a := gAd G a) (by rw [had]; exact q1) ((hK.2 1 _ rfl).1 _ _) (fun q => by cases q) (by rw [arrV_size]; exact h2) (by rw [arrV_read _ _ (arr_lt h2)]; rfl) rfl rfl hd (h3 p e s m args below meth c ls H locs n0 K0 C tb R hl hg hq)
theorem okS_new {ci idx : Nat} {q : vw_C} (hd : decode M.2.1 pc = .ok (.new idx, 3)) (hc : vwCl[ci]? = some q) (hc13 : ci < 13) (w1 : Cond.classLink M.1.cls idx q.1 ∈ tbG) (w2 : Cond.instantiable q.1 q.2.2 ∈ tbG) (w3 : Cond.initialized q.1 ∈ tbG)
    (h : n + 1 ≤ 601024 ∧ gS K n + q.2.2 ≤ 7293034 ∧ OkS S G d M (pc + 3) L (.ref n :: st) (z2 I n 0) (z2 J n 0) (z2 P n none) (u1 K n (ci, q.2.2)) (n + 1) Q) : OkS S G d M pc L st I J P K n Q := by
  intro p e s m args below meth c ls H locs n0 K0 C tb R hl hg hq
  obtain ⟨c1, c2, h3⟩ := h
  obtain ⟨hx, hb, hml, hret, hown, hts, hlk, hnm, hK, hsz, hxt⟩ := id C
  have hKn := hK.1 ci _ hc
  have hS0 : gS K n0 = gS K0 n0 := gS_congr hg.2
  have hmo : gS K n0 ≤ gS K n := gS_mono hg.1
  have had : gAd G n = H.size := by rw [R.1]; unfold gAd; rw [if_pos (by omega)]
  refine W.newcK hx hb hown (hts _ w1) (hts _ w2) (hts _ w3) rfl hd (by show n - n0 + 1 ≤ 601024 - n0; omega) (by show gS K n - gS K n0 + q.2.2 ≤ 7293034 - gS K0 n0; omega) hKn.2.1 rfl fun H1 kC hkC e1 z1 o1 => ?_
  have R1 := R.1
  have hob := u_born (gTy ci) hts (clIn hc) hKn hkC e1 (clTy ci _ hc)
  have hsz2 : kC.instanceTypes.size = q.2.2 := by
    obtain ⟨cC, kC', hfc, hk, hkind, hz⟩ := Cond.instantiable_spec (hts _ w2)
    cases hKn.2.1.symm.trans hfc
    cases hkC.symm.trans hk
    exact hz.2.2
  have key := h3 p e s m args below meth c ls H1 locs n0 K0 C tb (rep_new R z1 o1 ⟨_, by rw [← R1]; exact e1, by simp [blank, hsz2]⟩ (by
    unfold gC
    rw [if_pos hc13]
    refine ⟨q, hc, rfl, ?_⟩
    rw [← R1]
    exact hob.to (fun k _ => gF_dflt n)) c1 c2) hl (grow1 _ hg) hq
  rw [gS_new, gS_u1 _ _ hg.1, show n + 1 - n0 = n - n0 + 1 by omega, show gS K n + q.2.2 - gS K n0 = gS K n - gS K n0 + q.2.2 by omega] at key
  rw [← had]
  exact key
theorem okS_newa {t : Nat} {x : Int32} {atype : ArrayType} {ty : FieldType} (hty : newarray.typeOf atype = ty) (ht : (gTys G)[t]? = some (G.2.2.2.1 t, ty)) (ht3 : t < 3) (hRA : ∀ U : State, ∀ cA : ClassId, va_RA U cA ty → U.vm.findClass ("[" ++ ty.toString) = some cA) (hdv : ∀ a j, defaultValue ty = gE G (z2 I a 0) (z2 J a 0) (z2 P a none) a j t) (hd : decode M.2.1 pc = .ok (.newarray atype, 2)) (w1 : Cond.arrayClass ty ∈ tbG)
    (h : ¬ x < 0 ∧ x.toNatClampNeg * componentBytes ty ≤ 536870912 ∧ n + 1 ≤ 601024 ∧ gS K n + x.toNatClampNeg ≤ 7293034 ∧ OkS S G d M (pc + 2) L (.ref n :: st) (z2 I n 0) (z2 J n 0) (z2 P n none) (u1 K n (13 + t, x.toNatClampNeg)) (n + 1) Q) : OkS S G d M pc L (.int x :: st) I J P K n Q := by
  intro p e s m args below meth c ls H locs n0 K0 C tb R hl hg hq
  obtain ⟨b1, b2, c1, c2, h3⟩ := h
  obtain ⟨hx, hb, hml, hret, hown, hts, hlk, hnm, hK, hsz, hxt⟩ := id C
  have hS0 : gS K n0 = gS K0 n0 := gS_congr hg.2
  have hmo : gS K n0 ≤ gS K n := gS_mono hg.1
  have had : gAd G n = H.size := by rw [R.1]; unfold gAd; rw [if_pos (by omega)]
  subst hty
  refine W.newa (atype := atype) hx hb (hts _ w1) rfl hd rfl b1 b2 (by show n - n0 + 1 ≤ 601024 - n0; omega) (by show gS K n - gS K n0 + x.toNatClampNeg ≤ 7293034 - gS K0 n0; omega) fun cA kA comp f1 f2 f3 => ?_
  have hcA : cA = G.2.2.2.1 t := Option.some.inj (f1.symm.trans (hRA s _ (hK.2 t _ ht).2))
  subst hcA
  have R1 := R.1
  have key := h3 p e s m args below meth c ls _ locs n0 K0 C tb (rep_new (H' := H.push { cls := G.2.2.2.1 t, slots := Array.replicate x.toNatClampNeg (defaultValue (newarray.typeOf atype)), vm := .none }) (kd := 13 + t) R (Array.size_push _) (fun q hq => Array.getElem?_push_lt hq ▸ (by simp [hq])) ⟨{ cls := G.2.2.2.1 t, slots := Array.replicate x.toNatClampNeg (defaultValue (newarray.typeOf atype)), vm := .none }, by rw [← R1]; simp, by simp⟩ (by
    unfold gC
    rw [if_neg (by show ¬ 13 + t < 13; omega), if_pos (by show 13 + t < 19; omega), ← R1]
    rw [Array.getElem?_push_size, arrV_new]
    show _ = some (arrV (G.2.2.2.1 (13 + t - 13)) x.toNatClampNeg (fun j => gE G (z2 I n 0) (z2 J n 0) (z2 P n none) n j (13 + t - 13)))
    rw [show 13 + t - 13 = t by omega]
    exact congrArg some (congrArg (arrV _ _) (funext fun j => hdv n j))) c1 c2) hl (grow1 _ hg) hq
  rw [gS_new, gS_u1 _ _ hg.1, show n + 1 - n0 = n - n0 + 1 by omega, show gS K n + x.toNatClampNeg - gS K n0 = gS K n - gS K n0 + x.toNatClampNeg by omega] at key
  rw [← had]
  exact key
theorem okS_ret {ty : FieldType} {v : Int32} (hd : decode M.2.1 pc = .ok (.ireturn, 1)) (hr : M.2.2.2 = some ty) (hn : narrow ty (.int v) = .int v) (h : Q (some (.int v)) I J P K n) : OkS S G d M pc L [.int v] I J P K n Q := by
  intro p e s m args below meth c ls H locs n0 K0 C tb R hl hg hq
  obtain ⟨hx, hb, hml, hret, hown, hts, hlk, hnm, hK, hsz, hxt⟩ := id C
  have hS0 : gS K n0 = gS K0 n0 := gS_congr hg.2
  have c1 := R.2.2.2.2.2.1
  have c2 := R.2.2.2.2.2.2
  refine W.widen (k := 601024 - n0) (n := 7293034 - gS K0 n0) (by omega) (by omega) ?_
  exact W.zret hx hb (hret.trans hr) hn (fun t ht hW => ⟨some (.int v), I, J, P, K, n, rfl, by rw [ht]; exact R, hg, h⟩) hq hd (hlocks := hlk)
theorem okS_istoreV {k : Nat} {x : Int32} (L' : List (Option Value)) (hd : decode M.2.1 pc = .ok (.istore k, 2)) (hi : k < M.2.2.1) (he : st1 L k (.int x) = L') (h : OkS S G d M (pc + 2) L' st I J P K n Q) : OkS S G d M pc L (.int x :: st) I J P K n Q := by
  subst he; exact okS_istore hd hi h
theorem okS_astore_nV {k : Fin 4} {x : Nat} (L' : List (Option Value)) (hd : decode M.2.1 pc = .ok (.astore_n k, 1)) (hi : (k : Nat) < M.2.2.1) (he : st1 L (k : Nat) (.ref x) = L') (h : OkS S G d M (pc + 1) L' st I J P K n Q) : OkS S G d M pc L (.ref x :: st) I J P K n Q := by
  subst he; exact okS_astore_n hd hi h
theorem okS_iincW {k : Nat} {z : Int} {x : Int32} (v : Int32) (L' : List (Option Value)) (hd : decode M.2.1 pc = .ok (.iinc k z, 3)) (hi : k < M.2.2.1) (hl : L[k]? = some (some (.int x))) (he : x + Int32.ofInt z = v) (hL : st1 L k (.int v) = L') (h : OkS S G d M (pc + 3) L' st I J P K n Q) : OkS S G d M pc L st I J P K n Q := by
  subst hL; exact okS_iincV v hd hi hl he h
theorem okS_newaJ {x : Int32} (hd : decode M.2.1 pc = .ok (.newarray .long, 2)) (N : Nat) (w1 : Cond.arrayClass .long ∈ tbG) (c : ¬ x < 0 ∧ x.toNatClampNeg = N ∧ N * 8 ≤ 536870912) (h : n + 1 ≤ 601024 ∧ gS K n + N ≤ 7293034 ∧ OkS S G d M (pc + 2) L (.ref n :: st) (z2 I n 0) (z2 J n 0) (z2 P n none) (u1 K n (14, N)) (n + 1) Q) : OkS S G d M pc L (.int x :: st) I J P K n Q := by
  obtain ⟨c1, c2, c3⟩ := c
  subst c2
  exact okS_newa (t := 1) (ty := .long) rfl rfl (by decide) (fun U cA h => h) (fun a j => by unfold gE; simp [z2_s]; rfl) hd w1 ⟨c1, c3, h.1, h.2.1, h.2.2⟩
theorem okS_less {L' : List (Option Value)} (hn : L'.length = L.length) (hs : ∀ (i : Nat) (v : Value), L'[i]? = some (some v) → L[i]? = some (some v)) (h : OkS S G d M pc L' st I J P K n Q) : OkS S G d M pc L st I J P K n Q := by
  intro p e s m args below meth c ls H locs n0 K0 C tb R hl hg hq
  exact h p e s m args below meth c ls H locs n0 K0 C tb R ⟨hl.1, hn.trans hl.2.1, hl.2.2.1, fun i v hv => hl.2.2.2 i v (hs i v hv)⟩ hg hq
theorem okS_lessB {L' : List (Option Value)} (hs : lessB L' L) (h : OkS S G d M pc L' st I J P K n Q) : OkS S G d M pc L st I J P K n Q := okS_less (lessB_ok _ _ hs).1 (lessB_ok _ _ hs).2 h
theorem W_afterS {p : Program} {e : Env} {s : State} {m : MethodId} {args : Array Value} {below : List Frame} {meth : Method} {c : Code} {ls : Array Slot} {H : Heap} {locs : List Loc} {n0 : Nat} {K0 : sK} (C : Cx G M p s m args meth c n0) (tb : S s) (hv : lvr G ls M.2.2.1 L) (hg : n0 ≤ n ∧ ∀ a, a < n0 → K a = K0 a) (hq : ∀ q ∈ locs, gB G ≤ q.base) {st0 rest : List Value} {a : Array Value}
    (hr : va_Run p G.1 e (gRm d n0 (gS K0 n0)) s m args below meth c H locs (n - n0) (gS K n - gS K n0) (601024 - n) (7293034 - gS K n) (F0 m pc ls st0) (rest.map (gV G)) (gQc G (fun r I' J' P' K' n' => (n ≤ n' ∧ ∀ a, a < n → K' a = K a) → OkS S G d M (pc + 3) L (r.toList ++ rest) I' J' P' K' n' Q) n K a) (fun a => gB G ≤ a)) :
    W p G.1 e (gRm d n0 (gS K0 n0)) s m args below meth c H locs (n - n0) (gS K n - gS K n0) (MQ below (gQc G Q n0 K0) args s (601024 - n0) (7293034 - gS K0 n0) (fun a => gB G ≤ a)) (F0 m pc ls st0) := by
  intro T hT X
  obtain ⟨v, st₀, t, T', Lc, e0, X', hL, e1, e2, ⟨r, I', J', P', K', n', ho, R', hg', hQ⟩, go⟩ := hr T hT X
  have hv' : v = r.map (gV G) := by cases ho; rfl
  subst hv'
  have hg2 : n0 ≤ n' ∧ ∀ a, a < n0 → K' a = K0 a := ⟨Nat.le_trans hg.1 hg'.1, fun a ha => (hg'.2 a (by omega)).trans (hg.2 a ha)⟩
  rw [← e1] at R'
  have key := hQ hg' p e s m args below meth c ls T'.heap (locs ++ Lc) n0 K0 C tb R' hv hg2 (fun z hz => (List.mem_append.mp hz).elim (hq z) (hL z))
  have hsz := C.2.2.2.2.2.2.2.2.2.1
  have hdrop := gS_drop R' (n' - n0) n0 (by omega)
  have hmo : gS K' n0 ≤ gS K' n' := gS_mono hg2.1
  obtain ⟨t', s1, q1⟩ := key T' rfl (stand_tight X' (by rw [R'.1, hsz]; omega) (by rw [hsz]; omega))
  refine ⟨t', go t' ?_, q1⟩
  have es : (r.toList ++ rest).map (gV G) = (r.map (gV G)).toList ++ rest.map (gV G) := by cases r <;> simp
  rw [es] at s1
  exact s1
theorem okS_callV {M' : gM} {np idx ci b : Nat} {q : vw_C} {As rest : List Value} (hd : decode M.2.1 pc = .ok (.invokevirtual idx, 3)) (hM : MI M' np) (w1 : Cond.methodLink M.1.cls idx M'.1 ∈ tbG) (w2 : Cond.instanceMethod M'.1 ∈ tbG) (w3 : Cond.selects M'.1.cls M'.1 M'.1 ∈ tbG) (hc : vwCl[ci]? = some q) (hc13 : ci < 13) (hcn : M'.1.cls = q.1) (hn : As.length = np) (hst : st = As.reverse ++ .ref b :: rest) (hcat : (rest.map fun v => v.category).sum ≤ 8) (hlen : (entV (.ref b :: As)).length ≤ M'.2.2.1)
    (h : (K b).1 = ci ∧ Ok G d M' 0 (entL M'.2.2.1 (.ref b :: As)) [] I J P K n (fun r I' J' P' K' n' => (n ≤ n' ∧ ∀ a, a < n → K' a = K a) → OkS S G (d + 1) M (pc + 3) L (r.toList ++ rest) I' J' P' K' n' Q)) : OkS S G (d + 1) M pc L st I J P K n Q := by
  intro p e s m args below meth c ls H locs n0 K0 C tb R hl hg hq
  obtain ⟨hk, h⟩ := h
  obtain ⟨hx, hb, hml, hret, hown, hts, hlk, hnm, hK, hsz, hxt⟩ := id C
  have hS0 : gS K n0 = gS K0 n0 := gS_congr hg.2
  have hmo : gS K n0 ≤ gS K n := gS_mono hg.1
  have c1 := R.2.2.2.2.2.1
  have c2 := R.2.2.2.2.2.2
  have hbd : gAd G b = gB G + b := rep_ad R (rep_lt R (by omega))
  have hcat2 : ((rest.map (gV G)).map fun v => v.category).sum ≤ 8 := by rw [List.map_map, show (fun v => v.category) ∘ gV G = fun v => v.category from funext (gV_cat G)]; exact hcat
  obtain ⟨r, h1, h2, cell, q1, q2, q3, q4⟩ := rep_obj R hk hc13
  refine W_afterS C tb hl hg hq (a := ((.ref b :: As).map (gV G)).toArray) (va_runV (Ts := tbG) (cc := M.2.1) (nL := M.2.2.1) (own := M.1.cls) (index := idx) (y := M'.1) (C := M'.1.cls) (b := gAd G b) (As := As.map (gV G)) ⟨hx, hb, hml, hown, hts⟩ (ok_met hlen hM.1 h) ⟨callB_ok C hM w1, hts _ w2, hts _ w3⟩ ⟨pc_blind, ⟨cell, by rw [hbd]; exact q1, by rw [q3]; rfl, by rw [q2, hcn]; exact (hK.1 ci q hc).2.1⟩, pc_at C R⟩ rfl (by rw [List.length_map]; exact hn) hl.1 (by rw [hst]; show List.map _ _ = _; rw [List.map_append, List.map_reverse]; rfl) (lv_room hcat2) hd ⟨by show n - n0 + (601024 - n) ≤ 601024 - n0; omega, by show gS K n - gS K n0 + (7293034 - gS K n) ≤ 7293034 - gS K0 n0; omega⟩)
theorem okS_callI {M' : gM} {np idx b : Nat} {As rest : List Value} (hd : decode M.2.1 pc = .ok (.invokespecial idx, 3)) (hM : MI M' np) (w1 : Cond.methodLink M.1.cls idx M'.1 ∈ tbG) (w2 : Cond.instanceMethod M'.1 ∈ tbG) (hy : M'.1.name = "<init>") (hr : M'.2.2.2 = none) (hn : As.length = np) (hst : st = As.reverse ++ .ref b :: rest) (hcat : (rest.map fun v => v.category).sum ≤ 8) (hlen : (entV (.ref b :: As)).length ≤ M'.2.2.1)
    (h : Ok G d M' 0 (entL M'.2.2.1 (.ref b :: As)) [] I J P K n (fun r I' J' P' K' n' => (n ≤ n' ∧ ∀ a, a < n → K' a = K a) → OkS S G (d + 1) M (pc + 3) L (r.toList ++ rest) I' J' P' K' n' Q)) : OkS S G (d + 1) M pc L st I J P K n Q := by
  intro p e s m args below meth c ls H locs n0 K0 C tb R hl hg hq
  obtain ⟨hx, hb, hml, hret, hown, hts, hlk, hnm, hK, hsz, hxt⟩ := id C
  have hS0 : gS K n0 = gS K0 n0 := gS_congr hg.2
  have hmo : gS K n0 ≤ gS K n := gS_mono hg.1
  have c1 := R.2.2.2.2.2.1
  have c2 := R.2.2.2.2.2.2
  have hcat2 : ((rest.map (gV G)).map fun v => v.category).sum ≤ 8 := by rw [List.map_map, show (fun v => v.category) ∘ gV G = fun v => v.category from funext (gV_cat G)]; exact hcat
  have cb := callB_ok (d' := d) (n1 := n0) (S1 := gS K0 n0) (n2 := n) (S2 := gS K n) C hM w1
  rw [hr] at cb
  refine W_afterS C tb hl hg hq (a := ((.ref b :: As).map (gV G)).toArray) (va_runI (Ts := tbG) (cc := M.2.1) (nL := M.2.2.1) (own := M.1.cls) (index := idx) (y := M'.1) (b := gAd G b) (As := As.map (gV G)) ⟨hx, hb, hml, hown, hts⟩ (ok_met hlen hM.1 h) ⟨cb, hy, hts _ w2⟩ ⟨pc_blind, pc_at C R⟩ rfl (by rw [List.length_map]; exact hn) hl.1 (by rw [hst]; show List.map _ _ = _; rw [List.map_append, List.map_reverse]; rfl) (lv_room hcat2) hd ⟨by show n - n0 + (601024 - n) ≤ 601024 - n0; omega, by show gS K n - gS K n0 + (7293034 - gS K n) ≤ 7293034 - gS K0 n0; omega⟩)
theorem okS_callH {M' : gM} {np idx : Nat} {As rest : List Value} (hd : decode M.2.1 pc = .ok (.invokestatic idx, 3)) (hM : MH M' np) (w1 : Cond.methodLink M.1.cls idx M'.1 ∈ tbG) (w2 : Cond.static M'.1 ∈ tbG) (hn : As.length = np) (hst : st = As.reverse ++ rest) (hcat : (rest.map fun v => v.category).sum ≤ 8) (hlen : (entV As).length ≤ M'.2.2.1)
    (h : OkH G d M' 0 (entL M'.2.2.1 As) [] I J P K n (fun r I' J' P' K' n' => (n ≤ n' ∧ ∀ a, a < n → K' a = K a) → OkS S G (d + 1) M (pc + 3) L (r.toList ++ rest) I' J' P' K' n' Q)) : OkS S G (d + 1) M pc L st I J P K n Q := by
  intro p e s m args below meth c ls H locs n0 K0 C tb R hl hg hq
  obtain ⟨hx, hb, hml, hret, hown, hts, hlk, hnm, hK, hsz, hxt⟩ := id C
  obtain ⟨m1, m2, m3, m4, m5, m6⟩ := hM
  have hS0 : gS K n0 = gS K0 n0 := gS_congr hg.2
  have hmo : gS K n0 ≤ gS K n := gS_mono hg.1
  have c1 := R.2.2.2.2.2.1
  have c2 := R.2.2.2.2.2.2
  have hcat2 : ((rest.map (gV G)).map fun v => v.category).sum ≤ 8 := by rw [List.map_map, show (fun v => v.category) ∘ gV G = fun v => v.category from funext (gV_cat G)]; exact hcat
  refine W_afterS C tb hl hg hq (a := (As.map (gV G)).toArray) (vx_runSW (n := np) (hh := tbH) (bytes := M'.2.1) (maxL := M'.2.2.1) (ret := M'.2.2.2) (Ts := tbG) (cc := M.2.1) (nL := M.2.2.1) (own := M.1.cls) (index := idx) (y := M'.1) ⟨hx, hb, hml, hown, hts⟩ (okH_met hlen m1 h) ⟨⟨rfl, rfl, Nat.le_refl _, by show 8 + (M'.2.2.1 + 11) + 64 * d ≤ 64 * (d + 1); omega, fun w hw a' U hW => ?_, List.mem_cons_self⟩, hts _ m2, hts _ m3, m5, fun sig h => ?_, hts _ w1, hts _ w2⟩ ⟨pc_blind, pc_at C R⟩ rfl (by rw [List.length_map]; exact hn) hl.1 (by rw [hst]; show List.map _ _ = _; rw [List.map_append, List.map_reverse]) (lv_room hcat2) hd ⟨by show n - n0 + (601024 - n) ≤ 601024 - n0; omega, by show gS K n - gS K n0 + (7293034 - gS K n) ≤ 7293034 - gS K0 n0; omega⟩)
  · rcases List.mem_cons.mp hw with q | q
    · subst q; exact tb_warm hts _ m2 a' U hW
    · exact tb_warm hts w q a' U hW
  · rw [h] at m6
    exact (Option.some.inj m6).symm
variable {M' : gM} {np idx ci b : Nat} {q : vw_C} {As rest : List Value}
theorem okS_VkI (hd : decode M.2.1 pc = .ok (.invokevirtual idx, 3)) (hL : LkV M.1.cls idx M' np ci q) (hn : As.length = np) (hst : st = As.reverse ++ .ref b :: rest) (hcat : (rest.map fun v => v.category).sum ≤ 8) (hlen : (entV (.ref b :: As)).length ≤ M'.2.2.1)
    (hk : (K b).1 = ci) (h : ckI G d M' (.ref b :: As) I J P K n (fun v I J => OkS S G (d + 1) M (pc + 3) L (.int v :: rest) I J P K n Q)) : OkS S G (d + 1) M pc L st I J P K n Q :=
  okS_callV hd hL.1 hL.2.1 hL.2.2.1 hL.2.2.2.1 hL.2.2.2.2.1 hL.2.2.2.2.2.1 hL.2.2.2.2.2.2 hn hst hcat hlen ⟨hk, ok_mono (fun _ _ _ _ _ _ ⟨⟨e1, e2, e3⟩, v, e4, h⟩ _ => by subst e1; subst e2; subst e3; subst e4; exact h) h⟩
theorem okS_VqI (hd : decode M.2.1 pc = .ok (.invokevirtual idx, 3)) (hL : LkV M.1.cls idx M' np ci q) (hn : As.length = np) (hst : st = As.reverse ++ .ref b :: rest) (hcat : (rest.map fun v => v.category).sum ≤ 8) (hlen : (entV (.ref b :: As)).length ≤ M'.2.2.1)
    (hk : (K b).1 = ci) (h : cqI G d M' (.ref b :: As) I J P K n (fun v I' J' P' K' n' => (n ≤ n' ∧ ∀ a, a < n → K' a = K a) → OkS S G (d + 1) M (pc + 3) L (.int v :: rest) I' J' P' K' n' Q)) : OkS S G (d + 1) M pc L st I J P K n Q :=
  okS_callV hd hL.1 hL.2.1 hL.2.2.1 hL.2.2.2.1 hL.2.2.2.2.1 hL.2.2.2.2.2.1 hL.2.2.2.2.2.2 hn hst hcat hlen ⟨hk, ok_mono (fun _ _ _ _ _ _ ⟨v, e4, h⟩ g => by subst e4; exact h g) h⟩
theorem okS_IqV (hd : decode M.2.1 pc = .ok (.invokespecial idx, 3)) (hL : LkI M.1.cls idx M' np) (hn : As.length = np) (hst : st = As.reverse ++ .ref b :: rest) (hcat : (rest.map fun v => v.category).sum ≤ 8) (hlen : (entV (.ref b :: As)).length ≤ M'.2.2.1)
    (h : cqV G d M' (.ref b :: As) I J P K n (fun I J P K n => OkS S G (d + 1) M (pc + 3) L rest I J P K n Q)) : OkS S G (d + 1) M pc L st I J P K n Q :=
  okS_callI hd hL.1 hL.2.1 hL.2.2.1 hL.2.2.2.1 hL.2.2.2.2 hn hst hcat hlen (ok_mono (fun _ _ _ _ _ _ ⟨e4, h⟩ _ => by subst e4; exact h) h)
theorem okS_SHI (hd : decode M.2.1 pc = .ok (.invokestatic idx, 3)) (hM : MH M' np) (w1 : Cond.methodLink M.1.cls idx M'.1 ∈ tbG) (w2 : Cond.static M'.1 ∈ tbG) (hn : As.length = np) (hst : st = As.reverse ++ rest) (hcat : (rest.map fun v => v.category).sum ≤ 8) (hlen : (entV As).length ≤ M'.2.2.1)
    (h : OkH G d M' 0 (entL M'.2.2.1 As) [] I J P K n (qI (fun v I' J' P' K' n' => (n ≤ n' ∧ ∀ a, a < n → K' a = K a) → OkS S G (d + 1) M (pc + 3) L (.int v :: rest) I' J' P' K' n' Q))) : OkS S G (d + 1) M pc L st I J P K n Q :=
  okS_callH hd hM w1 w2 hn hst hcat hlen (okH_mono (fun _ _ _ _ _ _ ⟨v, e4, h⟩ g => by subst e4; exact h g) h)
/-- the script: its length, and what stands in it -/
abbrev scS (G : gG) (N : Nat) (xs : Nat → Int32) : State → Prop := fun s => va_X (G.2.2.2.2 9) N xs s G.2.1 ∧ G.2.2.2.2 9 < gB G
variable {N : Nat} {xs : Nat → Int32}
theorem okS_slen (hd : decode M.2.1 pc = .ok (.arraylength, 1)) (h : OkS (scS G N xs) G d M (pc + 1) L (.int (nI N) :: st) I J P K n Q) : OkS (scS G N xs) G d M pc L (.ref (sS 9) :: st) I J P K n Q := by
  intro p e s m args below meth c ls H locs n0 K0 C tb R hv hg hq
  have h1 := h p e s m args below meth c ls H locs n0 K0 C tb R hv hg hq
  rw [mp_hi]
  obtain ⟨⟨scr, x1, x2, x3, x4, x5⟩, hb⟩ := tb
  exact W.alen (n := nI N) C.1 C.2.1 (by rw [R.2.1 _ hb]; exact x1) x2 (by rw [x4] <;> rfl) rfl rfl hd h1
theorem okS_sld {x : Int32} (v : Int32) (hd : decode M.2.1 pc = .ok (.iaload, 1)) (hin : vp_in x N) (he : xs x.toNatClampNeg = v) (h : OkS (scS G N xs) G d M (pc + 1) L (.int v :: st) I J P K n Q) : OkS (scS G N xs) G d M pc L (.int x :: .ref (sS 9) :: st) I J P K n Q := by
  intro p e s m args below meth c ls H locs n0 K0 C tb R hv hg hq
  have h1 := h p e s m args below meth c ls H locs n0 K0 C tb R hv hg hq
  have e1 : (Value.int x :: Value.ref (sS 9) :: st).map (gV G) = .int x :: .ref (G.2.2.2.2 9) :: st.map (gV G) := by
    rw [List.map_cons, mp_hi]
    rfl
  rw [e1]
  obtain ⟨⟨scr, x1, x2, x3, x4, x5⟩, hb⟩ := tb
  subst he
  exact W.iald (v := .int (xs x.toNatClampNeg)) C.1 C.2.1 (by rw [R.2.1 _ hb]; exact x1) x2 x3 (by rw [x4]; exact hin) (x5 _ (arr_lt hin)) rfl rfl hd h1
theorem okS_arg {i : Nat} {kk : Int} (k : Nat) (hN : N ≤ 3072) (hi : i + 5 < N) (hk : k ≤ 5) (ek : Int32.ofInt kk = nI k) (l0 : L[0]? = some (some (.ref (sS 9)))) (l4 : L[4]? = some (some (.int (nI i)))) (d0 : decode M.2.1 pc = .ok (.aload_n 0, 1)) (d1 : decode M.2.1 (pc + 1) = .ok (.iload 4, 2)) (d3 : decode M.2.1 (pc + 3) = .ok (.iconst kk, 1)) (d4 : decode M.2.1 (pc + 4) = .ok (.iadd, 1)) (d5 : decode M.2.1 (pc + 5) = .ok (.iaload, 1)) (h : OkS (scS G N xs) G d M (pc + 6) L (.int (xs (i + k)) :: st) I J P K n Q) : OkS (scS G N xs) G d M pc L st I J P K n Q := by
  refine okS_aload_n (k := 0) d0 l0 (okS_iload d1 l4 (okS_iconstV (nI k) d3 ek (okS_iadd d4 ?_)))
  rw [i_add]
  exact okS_sld _ d5 (nI_inN (by omega) (by omega)) (by rw [nI_ck (by omega)]) h
end OkSs
