/-! what holds at the law's start -/
section Start
variable {s : State} {args : Array Value}
theorem aoa_spec {t : FieldType} (h : (Cond.arrayOver (.array t)).before args s = true) : ∃ comp c k, s.vm.classes[c]? = some k ∧ k.kind = .array comp (.array t) ∧ s.vm.findClass ("[" ++ (FieldType.array t).toString) = some c := by
  simp only [Cond.before, Cond.holds, Cond.value, beq_iff_eq] at h
  cases hc : s.vm.findClass (FieldType.array t).toString with
  | none => simp [hc] at h
  | some comp =>
    simp only [hc, Option.bind_some, Option.bind_eq_some_iff, Option.map_eq_some_iff] at h
    obtain ⟨c, hi, k, hk, hb⟩ := h
    obtain ⟨hlt, hp, -⟩ := Array.findIdx?_eq_some_iff_getElem.mp hi
    have hkk : s.vm.classes[c] = k := (Array.getElem?_eq_some_iff.mp hk).2
    rw [hkk] at hp
    cases hkind : k.kind with
    | array component ty =>
      rw [hkind] at hb hp
      simp at hb hp
      exact ⟨comp, c, k, hk, by rw [hkind, hp, hb.1], hb.2⟩
    | _ => rw [hkind] at hb; simp at hb
theorem arr_of {c : ClassId} {k : Class} {comp : ClassId} {ty : FieldType} (hk : s.vm.classes[c]? = some k) (hkind : k.kind = .array comp ty) : ArrOfT s c ty := fun _ _ => ⟨fun _ e => (by cases e), k, hk, comp, hkind⟩
theorem cl_inst : (vwCl.all fun q => tbG.contains (Cond.instantiable q.1 q.2.2)) = true := by decide +kernel
theorem st_cls (hts : ∀ w ∈ tbG, w.before args s = true) : ∃ D : va_G, ∀ (k : Nat) (q : vw_C), vwCl[k]? = some q → u_Kn s q.1 q.2.1 q.2.2 (D.1 k) (D.2 k) := by
  have h0 : ∀ k : Nat, ∃ r : ClassId × (Nat → Nat), ∀ q : vw_C, vwCl[k]? = some q → u_Kn s q.1 q.2.1 q.2.2 r.1 r.2 := by
    intro k
    cases e : vwCl[k]? with
    | none => exact ⟨(0, fun _ => 0), fun q hq => by cases hq⟩
    | some q =>
      have hi : Cond.instantiable q.1 q.2.2 ∈ tbG := by
        have := List.all_eq_true.mp cl_inst q (List.mem_of_getElem? e)
        simpa using this
      obtain ⟨cC, iS, hKn⟩ := u_known hts (clIn e) (hts _ hi)
      exact ⟨(cC, iS), fun q' hq => by cases hq; exact hKn⟩
  obtain ⟨r, hr⟩ := Classical.axiomOfChoice h0
  exact ⟨(fun k => (r k).1, fun k => (r k).2), hr⟩
theorem st_arr (h0 : (Cond.arrayClass .int).before args s = true) (h1 : (Cond.arrayClass .long).before args s = true) (h2 : (Cond.arrayClass .boolean).before args s = true) (h3 : (Cond.arrayOver (.object "SoleraHouse$Cellar")).before args s = true) (h4 : (Cond.arrayOver (.object "SoleraHouse$Sentence")).before args s = true) (h5 : (Cond.arrayOver (.array .int)).before args s = true) :
    ∃ cA : Nat → ClassId, ∀ (k : Nat) (q : ClassId × FieldType), [(cA 0, FieldType.int), (cA 1, .long), (cA 2, .boolean), (cA 3, .object "SoleraHouse$Cellar"), (cA 4, .object "SoleraHouse$Sentence"), (cA 5, .array .int)][k]? = some q → ArrOfT s q.1 q.2 ∧ va_RA s q.1 q.2 := by
  obtain ⟨c0, k0, p0, a0, b0, d0⟩ := Cond.arrayClass_spec h0
  obtain ⟨c1, k1, p1, a1, b1, d1⟩ := Cond.arrayClass_spec h1
  obtain ⟨c2, k2, p2, a2, b2, d2⟩ := Cond.arrayClass_spec h2
  obtain ⟨p3, c3, k3, e3, -, b3, d3, f3⟩ := Cond.arrayOver_spec h3
  obtain ⟨p4, c4, k4, e4, -, b4, d4, f4⟩ := Cond.arrayOver_spec h4
  obtain ⟨p5, c5, k5, b5, d5, f5⟩ := aoa_spec h5
  refine ⟨fun i => match i with | 0 => c0 | 1 => c1 | 2 => c2 | 3 => c3 | 4 => c4 | _ => c5, fun k q hq => ?_⟩
  match k, hq with
  | 0, hq => cases hq; exact ⟨arr_of b0 d0, a0⟩
  | 1, hq => cases hq; exact ⟨arr_of b1 d1, a1⟩
  | 2, hq => cases hq; exact ⟨arr_of b2 d2, a2⟩
  | 3, hq => cases hq; exact ⟨arr_of b3 d3, k3, p3, b3, d3, e3, f3⟩
  | 4, hq => cases hq; exact ⟨arr_of b4 d4, k4, p4, b4, d4, e4, f4⟩
  | 5, hq => cases hq; exact ⟨arr_of b5 d5, f5⟩
  | k + 6, hq => simp at hq
theorem st_xt (hts : ∀ w ∈ lw_tbl, w.before args s = true) : ∀ w ∈ xtG, va_Nw w s := by
  intro w hw
  have h1 := hts w (List.mem_filter.mp hw).1
  have h2 := (List.mem_filter.mp hw).2
  unfold xtK at h2
  split at h2
  · exact va_Nw.of rfl h1
  · exact va_Nw.of rfl h1
  · exact va_Nw.of rfl h1
  · exact h1
  · exact h1
  · cases h2
def tmS (i : Nat) : Term := .string (sOwn i) (sIdx i)
def nrC : List Cond := flatC (Jvm.Cond.and given_1 narrow_1)
theorem nr_ex : ∀ i, i < 4 → Cond.exactly (tmS i) "java/lang/String" ∈ nrC := by decide +kernel
theorem nr_co : ∀ i, i < 4 → Cond.eq (.field (tmS i) "java/lang/String" "coder" "B") (.int 0) ∈ nrC := by decide +kernel
theorem nr_ar : ∀ i, i < 4 → Cond.arrayOf (.field (tmS i) "java/lang/String" "value" "[B") .byte ∈ nrC := by decide +kernel
theorem nr_le : ∀ i, i < 4 → Cond.eq (.length (.field (tmS i) "java/lang/String" "value" "[B")) (.int (Int32.ofNat (sLen.getD i 0))) ∈ nrC := by decide +kernel
theorem nr_el : ∀ i, i < 4 → ∀ j, j < sLen.getD i 0 → Cond.eq (.elem (.field (tmS i) "java/lang/String" "value" "[B") (.int (Int32.ofNat j))) (.int ((sByt.getD i []).getD j 0)) ∈ nrC := by decide +kernel
theorem nr_ne : ∀ i, i < 4 → ∀ j, j < 4 → i ≠ j → Cond.not (Cond.eq (tmS i) (tmS j)) ∈ nrC ∨ Cond.not (Cond.eq (tmS j) (tmS i)) ∈ nrC := by decide +kernel
theorem nr_cs : Cond.eq (.static "java/lang/String" "COMPACT_STRINGS" "Z") (.int 1) ∈ nrC := by decide +kernel
theorem nr_us : Cond.isRef (.static Bundle.tN "UNASSIGNED_STACK" Bundle.steD) ∈ nrC := by decide +kernel
theorem nr_ss : Cond.isRef (.static Bundle.tN "SUPPRESSED_SENTINEL" Bundle.listD) ∈ nrC := by decide +kernel
theorem nr_sf : Cond.isRef (.static "jdk/internal/util/Preconditions" "SIOOBE_FORMATTER" "Ljava/util/function/BiFunction;") ∈ nrC := by decide +kernel
theorem nr_sr : ∀ i, i < 4 → Cond.stringRef (sOwn i) (sIdx i) (sTx i) ∈ lw_tbl := by
  intro i hi
  match i, hi with
  | 0, _ => exact List.mem_append_right _ (List.mem_of_getElem? (i := 453) (by decide +kernel))
  | 1, _ => exact List.mem_append_right _ (List.mem_of_getElem? (i := 922) (by decide +kernel))
  | 2, _ => exact List.mem_append_right _ (List.mem_of_getElem? (i := 934) (by decide +kernel))
  | 3, _ => exact List.mem_append_right _ (List.mem_of_getElem? (i := 935) (by decide +kernel))
theorem lwm (i : Nat) {w : Cond} (h : tables_1[i]? = some w) : w ∈ lw_tbl := List.mem_append_right _ (List.mem_of_getElem? h)
/-- the addresses of what was there before, and what is known of it -/
theorem st_P (l : Launch) (D : va_G) (cA : Nat → ClassId) (b : Nat) (hts : ∀ w ∈ lw_tbl, w.before args s = true) (hn : ∀ w ∈ nrC, w.before args s = true) : ∃ ad : Nat → Nat, ad 9 = b ∧ stP (l, s.heap, D, cA, ad) s := by
  have hA : ∀ a : Nat, a < s.heap.size → ¬ s.heap.size ≤ a := fun a ha => Nat.not_le.mpr ha
  obtain ⟨adK, adV, ⟨hS1, hS2⟩, hE⟩ := vk_Sof (N := 4) (tm := tmS) (len := sLen) (byt := sByt) (A := fun a => s.heap.size ≤ a) (by decide) (fun i hi => hn _ (nr_ex i hi)) (fun i hi => hn _ (nr_co i hi)) (fun i hi => hn _ (nr_ar i hi)) (fun i hi => hn _ (nr_le i hi)) (fun i hi j hj => hn _ (nr_el i hi j hj)) (fun i j hi hj ij => (nr_ne i hi j hj ij).imp (hn _) (hn _)) hA
  have hF : va_Zq "jdk/internal/util/Preconditions" "SIOOBE_FORMATTER" "Ljava/util/function/BiFunction;" (fun a => s.heap.size ≤ a) s s.heap := va_Zqof (hts _ (lwm 479 (by decide +kernel))) (hts _ (lwm 14 (by decide +kernel))) (hn _ nr_sf) hA
  obtain ⟨t8, h8⟩ : ∃ t8 : Nat, va_Z "jdk/internal/util/Preconditions" "SIOOBE_FORMATTER" "Ljava/util/function/BiFunction;" .null (fun a => s.heap.size ≤ a) s s.heap ∨ va_Z "jdk/internal/util/Preconditions" "SIOOBE_FORMATTER" "Ljava/util/function/BiFunction;" (.ref t8) (fun a => s.heap.size ≤ a) s s.heap := by
    rcases hF with h | ⟨t, h⟩
    · exact ⟨0, Or.inl h⟩
    · exact ⟨t, Or.inr h⟩
  obtain ⟨ad, e1, e2, e3, e4⟩ : ∃ ad : Nat → Nat, (∀ i, i < 4 → ad i = adK i) ∧ (∀ i, i < 4 → ad (4 + i) = adV i) ∧ ad 8 = t8 ∧ ad 9 = b := by
    refine ⟨fun i => if i < 4 then adK i else if i < 8 then adV (i - 4) else if i = 8 then t8 else b, fun i hi => if_pos hi, fun i hi => ?_, rfl, rfl⟩
    show (if 4 + i < 4 then adK (4 + i) else if 4 + i < 8 then adV (4 + i - 4) else if 4 + i = 8 then t8 else b) = adV i
    rw [if_neg (by omega), if_pos (by omega), show 4 + i - 4 = i by omega]
  refine ⟨ad, e4, fun i hi => ?_, ⟨fun i hi => ?_, fun i j hi hj e => hS2 i j hi hj ?_⟩, va_Zof (hts _ (lwm 463 (by decide +kernel))) (hts _ (lwm 12 (by decide +kernel))) (va_eqt (hn _ nr_cs)) hA, vx_Zqof (hts _ (lwm 1165 (by decide +kernel))) (hts _ (lwm 18 (by decide +kernel))) (hn _ nr_us) hA, vx_Zqof (hts _ (lwm 1167 (by decide +kernel))) (hts _ (lwm 18 (by decide +kernel))) (hn _ nr_ss) hA, ?_⟩
  · show vk_R _ _ _ (ad i) s
    rw [e1 i hi]
    exact vk_R.of (hts _ (nr_sr i hi)) (hE i hi)
  · show va_O _ (ad i) _ _ _ ∧ va_OF _ _ _ _ (ad i) _ _ _ ∧ va_OF _ _ _ (.ref (ad (4 + i))) (ad i) _ _ _ ∧ va_T _ (ad (4 + i)) _ _ _ _ _
    rw [e1 i hi, e2 i hi]
    exact hS1 i hi
  · rw [← e1 i hi, ← e1 j hj]
    exact e
  · show va_Z _ _ _ .null _ s s.heap ∨ va_Z _ _ _ (.ref (ad 8)) _ s s.heap
    rw [e3]
    exact h8
end Start
