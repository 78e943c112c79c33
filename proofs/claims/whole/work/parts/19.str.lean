section OkStr
variable {G : gG} {d : Nat} {M : gM} {pc : Nat} {L : List (Option Value)} {st : List Value} {I : sI} {J : sJ} {P : sP} {K : sK} {n : Nat} {Q : gQ}
/-- String constant i; its bytes -/
abbrev sS (i : Nat) : Nat := 4294967296 + i
abbrev sB (i : Nat) : Nat := 4294967296 + (4 + i)
def sby (i j : Nat) : Int32 := (sByt.getD i []).getD j 0
theorem ad_hi (G : gG) (i : Nat) : gAd G (4294967296 + i) = G.2.2.2.2 i := by
  unfold gAd
  rw [if_neg (by omega), show 4294967296 + i - 4294967296 = i from by omega]
abbrev vkS (G : gG) (U : State) (H : Heap) : Prop := vk_S 4 sLen sByt G.2.2.2.2 (fun i => G.2.2.2.2 (4 + i)) (fun a => gB G ≤ a) U H
theorem st_S {U : State} {H : Heap} (h : stP G U) (R : Rep G I J P K n H) : vkS G U H := h.2.1.kept (fun a ha _ => R.2.1 a ha)
theorem mp_hi (i : Nat) (st : List Value) : (Value.ref (4294967296 + i) :: st).map (gV G) = .ref (G.2.2.2.2 i) :: st.map (gV G) := by
  show Value.ref (gAd G _) :: _ = _
  rw [ad_hi]
theorem ok_ldcS (i : Nat) (hi : i < 4) (ho : M.1.cls = sOwn i) (hd : decode M.2.1 pc = .ok (.ldc (sIdx i), 2)) (h : Ok G d M (pc + 2) L (.ref (sS i) :: st) I J P K n Q) : Ok G d M pc L st I J P K n Q := by
  intro p e s m args below meth c ls H locs n0 K0 C R hv hg hq
  have h1 := h p e s m args below meth c ls H locs n0 K0 C R hv hg hq
  rw [mp_hi] at h1
  exact va_ldcS C.1 C.2.1 (by rw [← ho]; exact C.2.2.2.2.1) (C.2.2.2.2.2.2.2.2.2.2.2.1 i hi) hd h1
theorem ok_sget {i idx : Nat} {nm ds : String} {v : Value} (hd : decode M.2.1 pc = .ok (.getfield idx, 3)) (w : Cond.fieldLink M.1.cls idx "java/lang/String" nm ds ∈ tbG) (hF : ∀ U H, vkS G U H → va_OF "java/lang/String" nm ds (gV G v) (G.2.2.2.2 i) (fun a => gB G ≤ a) U H) (h : Ok G d M (pc + 3) L (v :: st) I J P K n Q) : Ok G d M pc L (.ref (sS i) :: st) I J P K n Q := by
  intro p e s m args below meth c ls H locs n0 K0 C R hv hg hq
  have h1 := h p e s m args below meth c ls H locs n0 K0 C R hv hg hq
  rw [mp_hi]
  obtain ⟨cf, k, fi, f, cell, q1, q2, q3, q4, q5, q6⟩ := hF s H (st_S C.2.2.2.2.2.2.2.2.2.2.2 R)
  exact W.getf C.1 C.2.1 C.2.2.2.2.1 (C.2.2.2.2.2.1 _ w) q1 q2 q3 q4 (v := gV G v) q5 rfl rfl hd h1
theorem ok_slen {i : Nat} (hi : i < 4) (hd : decode M.2.1 pc = .ok (.arraylength, 1)) (h : Ok G d M (pc + 1) L (.int (Int32.ofNat (sLen.getD i 0)) :: st) I J P K n Q) : Ok G d M pc L (.ref (sB i) :: st) I J P K n Q := by
  intro p e s m args below meth c ls H locs n0 K0 C R hv hg hq
  have h1 := h p e s m args below meth c ls H locs n0 K0 C R hv hg hq
  rw [mp_hi]
  obtain ⟨cell, q1, q2, q3, q4, q5, q6, q7⟩ := ((st_S C.2.2.2.2.2.2.2.2.2.2.2 R).1 i hi).2.2.2
  exact W.alen (n := Int32.ofNat (sLen.getD i 0)) C.1 C.2.1 q1 q2 q5 rfl rfl hd h1
theorem ok_sbal {i : Nat} {x : Int32} (hi : i < 4) (hin : vp_in x (sLen.getD i 0)) (hd : decode M.2.1 pc = .ok (.baload, 1)) (h : Ok G d M (pc + 1) L (.int (sby i x.toNatClampNeg) :: st) I J P K n Q) : Ok G d M pc L (.int x :: .ref (sB i) :: st) I J P K n Q := by
  intro p e s m args below meth c ls H locs n0 K0 C R hv hg hq
  have h1 := h p e s m args below meth c ls H locs n0 K0 C R hv hg hq
  have e1 : (Value.int x :: Value.ref (sB i) :: st).map (gV G) = .int x :: .ref (G.2.2.2.2 (4 + i)) :: st.map (gV G) := by
    rw [List.map_cons, mp_hi]
    rfl
  rw [e1]
  obtain ⟨cell, q1, q2, q3, q4, q5, q6, q7⟩ := ((st_S C.2.2.2.2.2.2.2.2.2.2.2 R).1 i hi).2.2.2
  have hlt := arr_lt hin
  have hin' : ¬ (x < 0 ∨ cell.slots.size ≤ x.toNatClampNeg) := by
    intro q
    rcases q with q | q
    · exact hin (Or.inl q)
    · omega
  exact W.bald (v := .int (sby i x.toNatClampNeg)) C.1 C.2.1 q1 q2 q3 hin' (q6 _ hlt) rfl rfl hd h1
theorem ok_sgs {idx : Nat} {O nm ds : String} {v : Value} (hd : decode M.2.1 pc = .ok (.getstatic idx, 3)) (w : Cond.fieldLink M.1.cls idx O nm ds ∈ tbG) (h : Ok G d M (pc + 3) L (v :: st) I J P K n Q) (hZ : ∀ U : State, stP G U → va_Z O nm ds (gV G v) (fun a => gB G ≤ a) U G.2.1) : Ok G d M pc L st I J P K n Q := by
  intro p e s m args below meth c ls H locs n0 K0 C R hv hg hq
  have h1 := h p e s m args below meth c ls H locs n0 K0 C R hv hg hq
  obtain ⟨cf, kf, fi, f, a, cell, q1, q2, q3, q4, q5, q6, q7, q8⟩ := (hZ s C.2.2.2.2.2.2.2.2.2.2.2).kept (H1 := H) (fun a ha _ => R.2.1 a ha)
  exact W.gets C.1 C.2.1 C.2.2.2.2.1 (C.2.2.2.2.2.1 _ w) q1 q2 q3 q4 q5 (fun e => by rw [e] at q6; cases q6) q7 rfl hd h1
/-- a static that is null or the eighth address -/
theorem ok_sgq {idx : Nat} (hd : decode M.2.1 pc = .ok (.getstatic idx, 3)) (w : Cond.fieldLink M.1.cls idx "jdk/internal/util/Preconditions" "SIOOBE_FORMATTER" "Ljava/util/function/BiFunction;" ∈ tbG) (h : ∀ v : Value, v = .null ∨ v = .ref (sS 8) → Ok G d M (pc + 3) L (v :: st) I J P K n Q) : Ok G d M pc L st I J P K n Q := by
  intro p e s m args below meth c ls H locs n0 K0 C R hv hg hq
  have hk : ∀ a : Nat, a < G.2.1.size → ¬ gB G ≤ a → H[a]? = G.2.1[a]? := fun a ha _ => R.2.1 a ha
  rcases C.2.2.2.2.2.2.2.2.2.2.2.2.2.2.2.2 with q | q
  · have h1 := h .null (Or.inl rfl) p e s m args below meth c ls H locs n0 K0 C R hv hg hq
    obtain ⟨cf, kf, fi, f, a, cell, q1, q2, q3, q4, q5, q6, q7, q8⟩ := q.kept (H1 := H) hk
    exact W.gets C.1 C.2.1 C.2.2.2.2.1 (C.2.2.2.2.2.1 _ w) q1 q2 q3 q4 q5 (fun e => by rw [e] at q6; cases q6) q7 rfl hd h1
  · have h1 := h (.ref (sS 8)) (Or.inr rfl) p e s m args below meth c ls H locs n0 K0 C R hv hg hq
    rw [mp_hi] at h1
    obtain ⟨cf, kf, fi, f, a, cell, q1, q2, q3, q4, q5, q6, q7, q8⟩ := q.kept (H1 := H) hk
    exact W.gets C.1 C.2.1 C.2.2.2.2.1 (C.2.2.2.2.2.1 _ w) q1 q2 q3 q4 q5 (fun e => by rw [e] at q6; cases q6) q7 rfl hd h1
theorem ok_i2c {x : Int32} (v : Int32) (hd : decode M.2.1 pc = .ok (.i2c, 1)) (he : (x.toUInt32 % 65536).toInt32 = v) (h : Ok G d M (pc + 1) L (.int v :: st) I J P K n Q) : Ok G d M pc L (.int x :: st) I J P K n Q :=
  fun p e s m args below meth c ls H locs n0 K0 C R hv hg hq => lv_i2c C.1 C.2.1 hd he (h p e s m args below meth c ls H locs n0 K0 C R hv hg hq)
theorem ok_callT {M' : gM} {np idx i : Nat} {As rest : List Value} (hi : i < 4) (hd : decode M.2.1 pc = .ok (.invokevirtual idx, 3)) (hM : MI M' np) (w1 : Cond.methodLink M.1.cls idx M'.1 ∈ tbG) (w2 : Cond.instanceMethod M'.1 ∈ tbG) (w3 : Cond.selects "java/lang/String" M'.1 M'.1 ∈ tbG) (hn : As.length = np) (hst : st = As.reverse ++ .ref (sS i) :: rest) (hcat : (rest.map fun v => v.category).sum ≤ 8) (hlen : (entV (.ref (sS i) :: As)).length ≤ M'.2.2.1)
    (h : Ok G d M' 0 (entL M'.2.2.1 (.ref (sS i) :: As)) [] I J P K n (fun r I' J' P' K' n' => Ok G (d + 1) M (pc + 3) L (r.toList ++ rest) I' J' P' K' n' Q)) : Ok G (d + 1) M pc L st I J P K n Q := by
  intro p e s m args below meth c ls H locs n0 K0 C R hl hg hq
  obtain ⟨hx, hb, hml, hret, hown, hts, hlk, hnm, hK, hsz, hxt⟩ := id C
  have hS0 : gS K n0 = gS K0 n0 := gS_congr hg.2
  have hmo : gS K n0 ≤ gS K n := gS_mono hg.1
  have c1 := R.2.2.2.2.2.1
  have c2 := R.2.2.2.2.2.2
  have hcat2 : ((rest.map (gV G)).map fun v => v.category).sum ≤ 8 := by rw [List.map_map, show (fun v => v.category) ∘ gV G = fun v => v.category from funext (gV_cat G)]; exact hcat
  obtain ⟨cell, q1, q2, q3, -⟩ := ((st_S hxt.2 R).1 i hi).1
  refine W_after C hl hg hq (a := ((.ref (sS i) :: As).map (gV G)).toArray) (va_runV (Ts := tbG) (cc := M.2.1) (nL := M.2.2.1) (own := M.1.cls) (index := idx) (y := M'.1) (C := "java/lang/String") (b := gAd G (sS i)) (As := As.map (gV G)) ⟨hx, hb, hml, hown, hts⟩ (ok_met hlen hM.1 h) ⟨callB_ok C hM w1, hts _ w2, hts _ w3⟩ ⟨pc_blind, ⟨cell, by rw [ad_hi]; exact q1, q2, q3⟩, pc_at C R⟩ rfl (by rw [List.length_map]; exact hn) hl.1 (by rw [hst]; show List.map _ _ = _; rw [List.map_append, List.map_reverse]; rfl) (lv_room hcat2) hd ⟨by show n - n0 + (601024 - n) ≤ 601024 - n0; omega, by show gS K n - gS K n0 + (7293034 - gS K n) ≤ 7293034 - gS K0 n0; omega⟩)
theorem ok_callTI {M' : gM} {np idx i : Nat} {As rest : List Value} (hi : i < 4) (hd : decode M.2.1 pc = .ok (.invokevirtual idx, 3)) (hM : MI M' np) (w1 : Cond.methodLink M.1.cls idx M'.1 ∈ tbG) (w2 : Cond.instanceMethod M'.1 ∈ tbG) (w3 : Cond.selects "java/lang/String" M'.1 M'.1 ∈ tbG) (hn : As.length = np) (hst : st = As.reverse ++ .ref (sS i) :: rest) (hcat : (rest.map fun v => v.category).sum ≤ 8) (hlen : (entV (.ref (sS i) :: As)).length ≤ M'.2.2.1)
    (h : ckI G d M' (.ref (sS i) :: As) I J P K n (fun v I J => Ok G (d + 1) M (pc + 3) L (.int v :: rest) I J P K n Q)) : Ok G (d + 1) M pc L st I J P K n Q :=
  ok_callT hi hd hM w1 w2 w3 hn hst hcat hlen (ok_mono (fun _ _ _ _ _ _ ⟨⟨e1, e2, e3⟩, v, e4, h⟩ => by subst e1; subst e2; subst e3; subst e4; exact h) h)
end OkStr
def mJlen : gM := ⟨yJ0_length_8abf5, cJ0_length_8abf5, 1, some .int⟩
def mJcod : gM := ⟨yJ0_coder_7d493, cJ0_coder_7d493, 1, some .byte⟩
def mJisl : gM := ⟨yJ0_isLatin1_aae02, cJ0_isLatin1_aae02, 1, some .boolean⟩
def mJchr : gM := ⟨yJ0_charAt_5068e, cJ0_charAt_5068e, 2, some .char⟩
def mJlch : gM := ⟨yJ1_charAt_3b067, cJ1_charAt_3b067, 2, some .char⟩
def mJchk : gM := ⟨yJ0_checkIndex_df160, cJ0_checkIndex_df160, 2, none⟩
def mJpre : gM := ⟨yJ3_checkIndex_8e157, cJ3_checkIndex_8e157, 3, some .int⟩
theorem miJlen : MI mJlen 0 := ⟨by decide, tbm 457 (by decide +kernel) rfl, tbm 12 (by decide +kernel) rfl, Nat.le_of_ble_eq_true rfl, ⟨by decide, by decide⟩, by decide +kernel⟩
theorem miJcod : MI mJcod 0 := ⟨by decide, tbm 461 (by decide +kernel) rfl, tbm 12 (by decide +kernel) rfl, Nat.le_of_ble_eq_true rfl, ⟨by decide, by decide⟩, by decide +kernel⟩
theorem miJisl : MI mJisl 0 := ⟨by decide, tbm 471 (by decide +kernel) rfl, tbm 12 (by decide +kernel) rfl, Nat.le_of_ble_eq_true rfl, ⟨by decide, by decide⟩, by decide +kernel⟩
theorem miJchr : MI mJchr 1 := ⟨by decide, tbm 467 (by decide +kernel) rfl, tbm 12 (by decide +kernel) rfl, Nat.le_of_ble_eq_true rfl, ⟨by decide, by decide⟩, by decide +kernel⟩
theorem miJlch : MI mJlch 2 := ⟨by decide, tbm 474 (by decide +kernel) rfl, tbm 13 (by decide +kernel) rfl, Nat.le_of_ble_eq_true rfl, ⟨by decide, by decide⟩, by decide +kernel⟩
theorem miJchk : MI mJchk 2 := ⟨by decide, tbm 477 (by decide +kernel) rfl, tbm 12 (by decide +kernel) rfl, Nat.le_of_ble_eq_true rfl, ⟨by decide, by decide⟩, by decide +kernel⟩
theorem miJpre : MI mJpre 3 := ⟨by decide, tbm 482 (by decide +kernel) rfl, tbm 14 (by decide +kernel) rfl, Nat.le_of_ble_eq_true rfl, ⟨by decide, by decide⟩, by decide +kernel⟩
section JdkStr
variable {G : gG} {d : Nat} {I : sI} {J : sJ} {P : sP} {K : sK} {n : Nat}
theorem sy_ok : ∀ i, i < 4 → ∀ j, j < sLen.getD i 0 → ((sby i j &&& 255).toUInt32 % 65536).toInt32 = sby i j ∧ narrow .char (.int (sby i j)) = .int (sby i j) := by decide +kernel
theorem S_cod {i : Nat} {F : Int32 → sI → sJ → Prop} (hi : i < 4) (h : F 0 I J) : ckI G d mJcod [.ref (sS i)] I J P K n F := by
  refine ok_sgs (v := .int 1) (O := "java/lang/String") (nm := "COMPACT_STRINGS") (ds := "Z") (by decide +kernel : decode cJ0_coder_7d493 0 = .ok (.getstatic 38, 3)) (tbm 462 (by decide +kernel) rfl) ?_ (fun U hU => hU.2.2.1)
  refine ok_if_eq 13 (by decide +kernel : decode cJ0_coder_7d493 3 = .ok (.ifCond .eq 10, 3)) (by decide) ⟨fun e => absurd e (by decide), fun _ => ?_⟩
  refine ok_aload_n (k := 0) (by decide +kernel : decode cJ0_coder_7d493 6 = .ok (.aload_n 0, 1)) rfl ?_
  refine ok_sget (i := i) (v := .int 0) (nm := "coder") (ds := "B") (by decide +kernel : decode cJ0_coder_7d493 7 = .ok (.getfield 15, 3)) (tbm 1971 (by decide +kernel) rfl) (fun U H q => (q.1 i hi).2.1) ?_
  refine ok_goto 14 (by decide +kernel : decode cJ0_coder_7d493 10 = .ok (.goto 4, 3)) (by decide) ?_
  exact ok_ret (ty := .byte) (by decide +kernel : decode cJ0_coder_7d493 14 = .ok (.ireturn, 1)) rfl rfl ⟨⟨rfl, rfl, rfl⟩, 0, rfl, h⟩
theorem S_isl {i : Nat} {F : Int32 → sI → sJ → Prop} (hi : i < 4) (h : F 1 I J) : ckI G d mJisl [.ref (sS i)] I J P K n F := by
  refine ok_sgs (v := .int 1) (O := "java/lang/String") (nm := "COMPACT_STRINGS") (ds := "Z") (by decide +kernel : decode cJ0_isLatin1_aae02 0 = .ok (.getstatic 38, 3)) (tbm 462 (by decide +kernel) rfl) ?_ (fun U hU => hU.2.2.1)
  refine ok_if_eq 17 (by decide +kernel : decode cJ0_isLatin1_aae02 3 = .ok (.ifCond .eq 14, 3)) (by decide) ⟨fun e => absurd e (by decide), fun _ => ?_⟩
  refine ok_aload_n (k := 0) (by decide +kernel : decode cJ0_isLatin1_aae02 6 = .ok (.aload_n 0, 1)) rfl ?_
  refine ok_sget (i := i) (v := .int 0) (nm := "coder") (ds := "B") (by decide +kernel : decode cJ0_isLatin1_aae02 7 = .ok (.getfield 15, 3)) (tbm 1971 (by decide +kernel) rfl) (fun U H q => (q.1 i hi).2.1) ?_
  refine ok_if_ne 17 (by decide +kernel : decode cJ0_isLatin1_aae02 10 = .ok (.ifCond .ne 7, 3)) (by decide) ⟨fun _ => ?_, fun e => absurd rfl e⟩
  refine ok_iconstV 1 (by decide +kernel : decode cJ0_isLatin1_aae02 13 = .ok (.iconst 1, 1)) rfl ?_
  refine ok_goto 18 (by decide +kernel : decode cJ0_isLatin1_aae02 14 = .ok (.goto 4, 3)) (by decide) ?_
  exact ok_ret (ty := .boolean) (by decide +kernel : decode cJ0_isLatin1_aae02 18 = .ok (.ireturn, 1)) rfl rfl ⟨⟨rfl, rfl, rfl⟩, 1, rfl, h⟩
theorem S_len {i : Nat} {F : Int32 → sI → sJ → Prop} (hi : i < 4) (h : F (Int32.ofNat (sLen.getD i 0)) I J) : ckI G (d + 1) mJlen [.ref (sS i)] I J P K n F := by
  refine ok_aload_n (k := 0) (by decide +kernel : decode cJ0_length_8abf5 0 = .ok (.aload_n 0, 1)) rfl ?_
  refine ok_sget (i := i) (v := .ref (sB i)) (nm := "value") (ds := "[B") (by decide +kernel : decode cJ0_length_8abf5 1 = .ok (.getfield 9, 3)) (tbm 1970 (by decide +kernel) rfl) (fun U H q => by show va_OF _ _ _ (Value.ref (gAd G _)) _ _ _ _; rw [ad_hi]; exact (q.1 i hi).2.2.1) ?_
  refine ok_slen hi (by decide +kernel : decode cJ0_length_8abf5 4 = .ok (.arraylength, 1)) ?_
  refine ok_aload_n (k := 0) (by decide +kernel : decode cJ0_length_8abf5 5 = .ok (.aload_n 0, 1)) rfl ?_
  refine ok_callTI (M' := mJcod) (np := 0) (i := i) (As := []) hi (by decide +kernel : decode cJ0_length_8abf5 6 = .ok (.invokevirtual 335, 3)) miJcod (tbm 458 (by decide +kernel) rfl) (tbm 459 (by decide +kernel) rfl) (tbm 460 (by decide +kernel) rfl) rfl rfl (Nat.le_of_ble_eq_true rfl) (Nat.le_of_ble_eq_true rfl) (S_cod hi ?_)
  refine ok_ishr (by decide +kernel : decode cJ0_length_8abf5 9 = .ok (.ishr, 1)) ?_
  have e0 : ∀ x : Int32, x >>> ((0 : Int32) &&& 31) = x := by
    intro x
    rw [show (0 : Int32) &&& 31 = 0 from by decide]
    exact Int32.shiftRight_zero
  rw [e0]
  exact ok_ret (ty := .int) (by decide +kernel : decode cJ0_length_8abf5 10 = .ok (.ireturn, 1)) rfl rfl ⟨⟨rfl, rfl, rfl⟩, _, rfl, h⟩
theorem S_pre {x y : Int32} {w : Value} {F : Int32 → sI → sJ → Prop} (hw : w = .null ∨ w = .ref (sS 8)) (h0 : ¬ x < 0) (h1 : x < y) (h : F x I J) : ckI G d mJpre [.int x, .int y, w] I J P K n F := by
  have hL : (entL 3 [.int x, .int y, w])[0]? = some (some (.int x)) ∧ (entL 3 [.int x, .int y, w])[1]? = some (some (.int y)) := by rcases hw with e | e <;> (subst e; exact ⟨rfl, rfl⟩)
  refine ok_iload_n (k := 0) (by decide +kernel : decode cJ3_checkIndex_8e157 0 = .ok (.iload_n 0, 1)) hL.1 ?_
  refine ok_if_lt 9 (by decide +kernel : decode cJ3_checkIndex_8e157 1 = .ok (.ifCond .lt 8, 3)) (by decide) ⟨fun e => absurd e h0, fun _ => ?_⟩
  refine ok_iload_n (k := 0) (by decide +kernel : decode cJ3_checkIndex_8e157 4 = .ok (.iload_n 0, 1)) hL.1 ?_
  refine ok_iload_n (k := 1) (by decide +kernel : decode cJ3_checkIndex_8e157 5 = .ok (.iload_n 1, 1)) hL.2 ?_
  refine ok_icmp_lt 16 (by decide +kernel : decode cJ3_checkIndex_8e157 6 = .ok (.if_icmp .lt 10, 3)) (by decide) ⟨fun _ => ?_, fun e => absurd h1 e⟩
  refine ok_iload_n (k := 0) (by decide +kernel : decode cJ3_checkIndex_8e157 16 = .ok (.iload_n 0, 1)) hL.1 ?_
  exact ok_ret (ty := .int) (by decide +kernel : decode cJ3_checkIndex_8e157 17 = .ok (.ireturn, 1)) rfl rfl ⟨⟨rfl, rfl, rfl⟩, _, rfl, h⟩
theorem S_chk {x y : Int32} {F : sI → sJ → Prop} (h0 : ¬ x < 0) (h1 : x < y) (h : F I J) : ckV G (d + 1) mJchk [.int x, .int y] I J P K n F := by
  refine ok_iload_n (k := 0) (by decide +kernel : decode cJ0_checkIndex_df160 0 = .ok (.iload_n 0, 1)) rfl ?_
  refine ok_iload_n (k := 1) (by decide +kernel : decode cJ0_checkIndex_df160 1 = .ok (.iload_n 1, 1)) rfl ?_
  refine ok_sgq (by decide +kernel : decode cJ0_checkIndex_df160 2 = .ok (.getstatic 1053, 3)) (tbm 478 (by decide +kernel) rfl) fun w hw => ?_
  refine ok_SkI (M' := mJpre) (np := 3) (As := [.int x, .int y, w]) (rest := []) (by decide +kernel : decode cJ0_checkIndex_df160 5 = .ok (.invokestatic 1059, 3)) ⟨miJpre, tbm 480 (by decide +kernel) rfl, tbm 481 (by decide +kernel) rfl⟩ rfl rfl (Nat.zero_le _) (by rcases hw with e | e <;> (subst e; exact Nat.le_of_ble_eq_true rfl)) (S_pre hw h0 h1 ?_)
  refine ok_pop (by decide +kernel : decode cJ0_checkIndex_df160 8 = .ok (.pop, 1)) rfl ?_
  exact ok_vret (by decide +kernel : decode cJ0_checkIndex_df160 9 = .ok (.return_, 1)) rfl ⟨⟨rfl, rfl, rfl⟩, rfl, h⟩
theorem S_lch {i : Nat} {x : Int32} {F : Int32 → sI → sJ → Prop} (hi : i < 4) (h0 : ¬ x < 0) (h1 : x < Int32.ofNat (sLen.getD i 0)) (h2 : x.toNatClampNeg < sLen.getD i 0) (h : F (sby i x.toNatClampNeg) I J) : ckI G (d + 2) mJlch [.ref (sB i), .int x] I J P K n F := by
  have hs := sy_ok i hi _ h2
  refine ok_iload_n (k := 1) (by decide +kernel : decode cJ1_charAt_3b067 0 = .ok (.iload_n 1, 1)) rfl ?_
  refine ok_aload_n (k := 0) (by decide +kernel : decode cJ1_charAt_3b067 1 = .ok (.aload_n 0, 1)) rfl ?_
  refine ok_slen hi (by decide +kernel : decode cJ1_charAt_3b067 2 = .ok (.arraylength, 1)) ?_
  refine ok_SkV (M' := mJchk) (np := 2) (As := [.int x, .int (Int32.ofNat (sLen.getD i 0))]) (rest := []) (by decide +kernel : decode cJ1_charAt_3b067 3 = .ok (.invokestatic 9, 3)) ⟨miJchk, tbm 475 (by decide +kernel) rfl, tbm 476 (by decide +kernel) rfl⟩ rfl rfl (Nat.zero_le _) (Nat.le_of_ble_eq_true rfl) (S_chk h0 h1 ?_)
  refine ok_aload_n (k := 0) (by decide +kernel : decode cJ1_charAt_3b067 6 = .ok (.aload_n 0, 1)) rfl ?_
  refine ok_iload_n (k := 1) (by decide +kernel : decode cJ1_charAt_3b067 7 = .ok (.iload_n 1, 1)) rfl ?_
  refine ok_sbal hi (fun q => q.elim h0 (fun q => absurd h2 (Nat.not_lt.mpr q))) (by decide +kernel : decode cJ1_charAt_3b067 8 = .ok (.baload, 1)) ?_
  refine ok_sipushV 255 (by decide +kernel : decode cJ1_charAt_3b067 9 = .ok (.sipush 255, 3)) (by decide) ?_
  refine ok_iand (by decide +kernel : decode cJ1_charAt_3b067 12 = .ok (.iand, 1)) ?_
  refine ok_i2c _ (by decide +kernel : decode cJ1_charAt_3b067 13 = .ok (.i2c, 1)) hs.1 ?_
  exact ok_ret (ty := .char) (by decide +kernel : decode cJ1_charAt_3b067 14 = .ok (.ireturn, 1)) rfl hs.2 ⟨⟨rfl, rfl, rfl⟩, _, rfl, h⟩
theorem S_chr {i : Nat} {x : Int32} {F : Int32 → sI → sJ → Prop} (hi : i < 4) (h0 : ¬ x < 0) (h1 : x < Int32.ofNat (sLen.getD i 0)) (h2 : x.toNatClampNeg < sLen.getD i 0) (h : F (sby i x.toNatClampNeg) I J) : ckI G (d + 3) mJchr [.ref (sS i), .int x] I J P K n F := by
  have hs := sy_ok i hi _ h2
  refine ok_aload_n (k := 0) (by decide +kernel : decode cJ0_charAt_5068e 0 = .ok (.aload_n 0, 1)) rfl ?_
  refine ok_callTI (M' := mJisl) (np := 0) (i := i) (As := []) (rest := []) hi (by decide +kernel : decode cJ0_charAt_5068e 1 = .ok (.invokevirtual 492, 3)) miJisl (tbm 468 (by decide +kernel) rfl) (tbm 469 (by decide +kernel) rfl) (tbm 470 (by decide +kernel) rfl) rfl rfl (Nat.le_of_ble_eq_true rfl) (Nat.le_of_ble_eq_true rfl) (S_isl hi ?_)
  refine ok_if_eq 16 (by decide +kernel : decode cJ0_charAt_5068e 4 = .ok (.ifCond .eq 12, 3)) (by decide) ⟨fun e => absurd e (by decide), fun _ => ?_⟩
  refine ok_aload_n (k := 0) (by decide +kernel : decode cJ0_charAt_5068e 7 = .ok (.aload_n 0, 1)) rfl ?_
  refine ok_sget (i := i) (v := .ref (sB i)) (nm := "value") (ds := "[B") (by decide +kernel : decode cJ0_charAt_5068e 8 = .ok (.getfield 9, 3)) (tbm 1970 (by decide +kernel) rfl) (fun U H q => by show va_OF _ _ _ (Value.ref (gAd G _)) _ _ _ _; rw [ad_hi]; exact (q.1 i hi).2.2.1) ?_
  refine ok_iload_n (k := 1) (by decide +kernel : decode cJ0_charAt_5068e 11 = .ok (.iload_n 1, 1)) rfl ?_
  refine ok_SkI (M' := mJlch) (np := 2) (As := [.ref (sB i), .int x]) (rest := []) (by decide +kernel : decode cJ0_charAt_5068e 12 = .ok (.invokestatic 495, 3)) ⟨miJlch, tbm 472 (by decide +kernel) rfl, tbm 473 (by decide +kernel) rfl⟩ rfl rfl (Nat.zero_le _) (Nat.le_of_ble_eq_true rfl) (S_lch hi h0 h1 h2 ?_)
  exact ok_ret (ty := .char) (by decide +kernel : decode cJ0_charAt_5068e 15 = .ok (.ireturn, 1)) rfl hs.2 ⟨⟨rfl, rfl, rfl⟩, _, rfl, h⟩
end JdkStr
