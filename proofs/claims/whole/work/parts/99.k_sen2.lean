/-! the class: a sentence that is read -/
/-- a part of a sentence that can be asked -/
def okIt (i : itT) : Prop := 10 ≤ i.1 ∧ i.1 ≤ 21 ∧ i.2.2 ≤ 999 ∧ (i.1 = 17 → i.2.2 ≤ 39) ∧ (18 ≤ i.1 → i.2.1 = 60 ∨ i.2.1 = 61 ∨ i.2.1 = 62) ∧ i.2.1 ≤ 62
def it0 : itT := (0, 0, 0)
def rN6 (I : sI) (s : Nat) (L : List itT) : Prop := I s 3 = nI L.length ∧ ∀ i, i < L.length → I (s + 1) i = nI (L.getD i it0).1 ∧ I (s + 2) i = nI (L.getD i it0).2.1 ∧ I (s + 3) i = nI (L.getD i it0).2.2
section Sen6
variable {G : gG} {d : Nat} {I : sI} {J : sJ} {P : sP} {K : sK} {n : Nat} {F : Int32 → sI → sJ → Prop} {FV : sI → sJ → Prop} {hd so : Nat → Nat} {c l s : Nat}
theorem C_add {L : List itT} {a b e : Nat} (S : shN P K s) (R : rN6 I s L) (hl : L.length < 40) (h : ∀ I', rN6 I' s (L ++ [(a, b, e)]) → (∀ x k, ¬ (s ≤ x ∧ x ≤ s + 3) → I' x k = I x k) → FV I' J) : ckV G d mX8_add [.ref s, .int (nI a), .int (nI b), .int (nI e)] I J P K n FV := by
  refine bX8_add_0 _ _ _ _ S ?_
  have ck : (nI L.length).toNatClampNeg = L.length := nI_ck (by omega)
  simp only [u2_a _ _ _ _ (show s ≠ s + 1 by omega), u2_a _ _ _ _ (show s ≠ s + 2 by omega), u2_a _ _ _ _ (show s ≠ s + 3 by omega), R.1, ck, nI_1]
  refine br_f (nI_ge (b := 40) hl (by decide)) ⟨nI_inN hl (by decide), nI_inN hl (by decide), nI_inN hl (by decide), h _ ⟨?_, fun i hi => ?_⟩ (fun x k hx => ?_)⟩
  · rw [u2_s, List.length_append]; rfl
  · rw [List.length_append] at hi
    have hi : i < L.length + 1 := hi
    have g1 : ∀ B : sI, B = u2 (u2 (u2 (u2 I (s + 1) L.length (nI a)) (s + 2) L.length (nI b)) (s + 3) L.length (nI e)) s 3 (nI (L.length + 1)) → (B (s + 1) i = if i = L.length then nI a else I (s + 1) i) ∧ (B (s + 2) i = if i = L.length then nI b else I (s + 2) i) ∧ (B (s + 3) i = if i = L.length then nI e else I (s + 3) i) := by
      intro B hB
      subst hB
      refine ⟨?_, ?_, ?_⟩
      · rw [u2_a _ _ _ _ (by omega), u2_a _ _ _ _ (by omega), u2_a _ _ _ _ (by omega)]
        simp only [u2, true_and]
      · rw [u2_a _ _ _ _ (by omega), u2_a _ _ _ _ (by omega)]
        by_cases q : i = L.length
        · rw [if_pos q, q, u2_s]
        · rw [if_neg q, u2_k _ _ _ _ q, u2_a _ _ _ _ (by omega)]
      · rw [u2_a _ _ _ _ (by omega)]
        by_cases q : i = L.length
        · rw [if_pos q, q, u2_s]
        · rw [if_neg q, u2_k _ _ _ _ q, u2_a _ _ _ _ (by omega), u2_a _ _ _ _ (by omega)]
    obtain ⟨g1, g2, g3⟩ := g1 _ rfl
    rw [g1, g2, g3]
    by_cases q : i = L.length
    · rw [if_pos q, if_pos q, if_pos q, List.getD_eq_getElem?_getD, List.getElem?_append_right (by omega), q]
      simp
    · rw [if_neg q, if_neg q, if_neg q, List.getD_eq_getElem?_getD, List.getElem?_append_left (by omega), ← List.getD_eq_getElem?_getD]
      exact R.2 i (by omega)
  · rw [u2_a _ _ _ _ (by omega), u2_a _ _ _ _ (by omega), u2_a _ _ _ _ (by omega), u2_a _ _ _ _ (by omega)]
theorem C_compares {v i sg y : Nat} (S : shN P K s) (hv : v < 2147483648) (hi : i < 40) (e2 : I (s + 2) i = nI sg) (e3 : I (s + 3) i = nI y) (hs : sg = 60 ∨ sg = 61 ∨ sg = 62) (hy : y ≤ 999) (h : F (b01 (cmpB sg v y)) I J) : ckI G d mX8_compares [.ref s, .int (nI v), .int (nI i)] I J P K n F := by
  have vi : vp_in (nI i) 40 := nI_inN hi (by decide)
  refine bX8_compares_0 _ _ _ S ⟨vi, ?_⟩
  rw [nI_ck (by omega), e2, e3]
  unfold cmpB at h
  rcases hs with e | e | e <;> subst e
  · rw [if_pos rfl] at h
    refine ⟨fun _ => ⟨vi, ?_⟩, fun z => absurd z (by decide), fun z => absurd rfl z⟩
    by_cases q : v < y
    · rw [decide_eq_true q] at h
      exact br_f (nI_ge q (by omega)) h
    · rw [decide_eq_false q] at h
      exact br_t (nI_le (by omega) hv) h
  · rw [if_neg (by decide), if_pos rfl] at h
    refine ⟨fun z => absurd z (by decide), fun z => absurd z (by decide), fun _ _ => ⟨vi, ?_⟩⟩
    by_cases q : v = y
    · rw [decide_eq_true q] at h
      exact br_t (by rw [q]) h
    · rw [decide_eq_false q] at h
      exact br_f (fun z => q ((nI_eq hv (by omega)).mp z)) h
  · rw [if_neg (by decide), if_neg (by decide)] at h
    refine ⟨fun z => absurd z (by decide), fun _ => ⟨vi, ?_⟩, fun _ z => absurd rfl z⟩
    by_cases q : y < v
    · rw [decide_eq_true q] at h
      exact br_f (nI_ge q hv) h
    · rw [decide_eq_false q] at h
      exact br_t (nI_le (by omega) (by omega)) h
theorem b01d {A B : Prop} {p : Prop} [Decidable p] {F : Int32 → sI → sJ → Prop} (h : F (b01 (decide p)) I J) (a : p → F 1 I J → A) (b : ¬ p → F 0 I J → B) : (p → A) ∧ (¬ p → B) := by
  refine ⟨fun q => a q ?_, fun q => b q ?_⟩
  · rw [decide_eq_true q] at h; exact h
  · rw [decide_eq_false q] at h; exact h
theorem C_plainHolds {k i : Nat} {L : List itT} (S : shN P K s) (T : sC P K c l) (Y : rL I l hd) (C : rC I c hd so) (w : wf hd so) (R : rN6 I s L) (hi1 : i < L.length) (hL : L.length ≤ 40) (ok : okIt (L.getD i it0)) (n3 : 13 ≤ (L.getD i it0).1) (hk : k < hd 1) (h : F (b01 (pvC hd so k (L.getD i it0))) I J) : ckI G (d + 2) mX8_plainHolds [.ref s, .ref c, .int (nI k), .int (nI i)] I J P K n F := by
  have vi : vp_in (nI i) 40 := nI_inN (by omega) (by decide)
  have hcs := wf_casks w
  have vk : vp_in (nI k) 20 := nI_inN (by omega) (by decide)
  obtain ⟨R1, R2⟩ := R
  obtain ⟨q1, q2, q3⟩ := R2 i hi1
  obtain ⟨o1, o2, o3, o4, o5, o6⟩ := ok
  have hso := sof_at w hk
  have w1 := w.1
  have hlt := w.2.2.2.2.2.2.2.1 k hk
  have h10 : hol hd k ≤ 400 := (w.2.1 _ hso.1).2.2.2
  have dn := w.2.2.2.2.2.2.2.2.2.1 k (by omega)
  have e22 := (C.2.2.2.2.1 k hk).1
  have e23 := (C.2.2.2.2.1 k hk).2
  refine bX8_plainHolds_0 _ _ _ _ S T.1 ⟨vi, ?_⟩
  rw [nI_ck (show i < 2147483648 by omega), nI_ck (show k < 2147483648 by omega), q1, q3, e22, e23]
  generalize L.getD i it0 = it at *
  obtain ⟨a, sg, y⟩ := it
  dsimp only at *
  have cmp : ∀ v, v < 2147483648 → 18 ≤ a → F (b01 (cmpB sg v y)) I J → ckI G (d + 1) mX8_compares [.ref s, .int (nI v), .int (nI i)] I J P K n (fun v I' J' => (v = 0 ∨ v = 1) ∧ F v I' J') := fun v hv ha hf => C_compares S hv (by omega) q2 q3 (o5 ha) o3 ⟨(by cases cmpB sg v y; exact Or.inl rfl; exact Or.inr rfl), hf⟩
  have ne : ∀ x y : Nat, x < 100 → y < 100 → x ≠ y → ¬ nI x = nI y := fun x y h1 h2 h3 z => h3 ((nI_eq (by omega) (by omega)).mp z)
  unfold pvC at h
  dsimp only at h
  obtain rfl | rfl | rfl | rfl | rfl | rfl | rfl | rfl | rfl : a = 13 ∨ a = 14 ∨ a = 15 ∨ a = 16 ∨ a = 17 ∨ a = 18 ∨ a = 19 ∨ a = 20 ∨ a = 21 := by omega
  · rw [if_pos rfl] at h
    refine ⟨fun _ => C_lackOf (d := d) T Y C w hk ?_, fun z => absurd z (by decide), fun z => absurd z (by decide), fun z => absurd z (by decide), fun z => absurd z (by decide), fun z => absurd z (by decide), fun z => absurd z (by decide), fun z => absurd z (by decide), fun z => absurd rfl z⟩
    have hb : lck hd so k ≤ 400 := by unfold lck; omega
    by_cases q : lck hd so k = 0
    · rw [decide_eq_true q] at h; exact br_t (by rw [q]; rfl) h
    · rw [decide_eq_false q] at h; exact br_f (nI_ne0 (by omega) (by omega)) h
  · rw [if_neg (by decide), if_pos rfl] at h
    refine ⟨fun z => absurd z (by decide), fun _ => ⟨vk, ?_⟩, fun z => absurd z (by decide), fun z => absurd z (by decide), fun z => absurd z (by decide), fun z => absurd z (by decide), fun z => absurd z (by decide), fun z => absurd z (by decide), fun _ z => absurd rfl z⟩
    by_cases q : ltr so k = 0
    · rw [decide_eq_true q] at h; exact br_t (by rw [q]; rfl) h
    · rw [decide_eq_false q] at h; exact br_f (nI_ne0 (by omega) (by omega)) h
  · rw [if_neg (by decide), if_neg (by decide), if_pos rfl] at h
    refine ⟨fun z => absurd z (by decide), fun z => absurd z (by decide), fun _ => C_oldest T C w hk (C_youngest T C w hk ?_), fun z => absurd z (by decide), fun z => absurd z (by decide), fun z => absurd z (by decide), fun z => absurd z (by decide), fun z => absurd z (by decide), fun _ _ z => absurd rfl z⟩
    have e := oI_eq (a := lo (wn so k) 40) (b := hi (wn so k) 40) (fun v hv => (lo_lt hv).1) (fun v hv => (hi_lt hv).1)
    by_cases q : lo (wn so k) 40 = hi (wn so k) 40
    · rw [decide_eq_false (fun z => z q)] at h; exact br_t (e.mpr q) h
    · rw [decide_eq_true q] at h; exact br_f (fun z => q (e.mp z)) h
  · rw [if_neg (by decide), if_neg (by decide), if_neg (by decide), if_pos rfl] at h
    refine ⟨fun z => absurd z (by decide), fun z => absurd z (by decide), fun z => absurd z (by decide), fun _ => ⟨l, T.2.1, T.2.2.1, vk, vi, ?_⟩, fun z => absurd z (by decide), fun z => absurd z (by decide), fun z => absurd z (by decide), fun z => absurd z (by decide), fun _ _ _ z => absurd rfl z⟩
    rw [Y.2.2 k hk]
    by_cases q : sof hd k = y
    · rw [decide_eq_true q] at h; exact br_t (by rw [q]) h
    · rw [decide_eq_false q] at h; exact br_f (fun z => q ((nI_eq (by omega) (by omega)).mp z)) h
  · rw [if_neg (by decide), if_neg (by decide), if_neg (by decide), if_neg (by decide), if_pos rfl] at h
    have hy := o4 rfl
    refine ⟨fun z => absurd z (by decide), fun z => absurd z (by decide), fun z => absurd z (by decide), fun z => absurd z (by decide), fun _ => ⟨vk, vi, nI_inN (by omega) (by decide), ?_⟩, fun z => absurd z (by decide), fun z => absurd z (by decide), fun z => absurd z (by decide), fun _ _ _ _ z => absurd rfl z⟩
    rw [nI_ck (show y < 2147483648 by omega), C.2.2.2.1 k y hk (by omega)]
    have hw : wn so k y ≤ ltr so k := sm_mem (f := wn so k) (show y < 40 by omega)
    by_cases q : 0 < wn so k y
    · rw [decide_eq_true q] at h; exact br_f (nI_nle q (by omega)) h
    · rw [decide_eq_false q] at h; exact br_t (by rw [show wn so k y = 0 by omega]; decide) h
  · rw [if_neg (by decide), if_neg (by decide), if_neg (by decide), if_neg (by decide), if_neg (by decide)] at h
    exact ⟨fun z => absurd z (by decide), fun z => absurd z (by decide), fun z => absurd z (by decide), fun z => absurd z (by decide), fun z => absurd z (by decide), fun _ => ⟨vk, cmp _ (by omega) (by decide) h⟩, fun z => absurd z (by decide), fun z => absurd z (by decide), fun _ _ _ _ _ z => absurd rfl z⟩
  · rw [if_neg (by decide), if_neg (by decide), if_neg (by decide), if_neg (by decide), if_neg (by decide)] at h
    refine ⟨fun z => absurd z (by decide), fun z => absurd z (by decide), fun z => absurd z (by decide), fun z => absurd z (by decide), fun z => absurd z (by decide), fun z => absurd z (by decide), fun _ => ⟨vk, ?_⟩, fun z => absurd z (by decide), fun _ _ _ _ _ _ z => absurd rfl z⟩
    unfold pvV at h
    rw [if_neg (by decide), if_pos rfl] at h
    by_cases q : ltr so k = 0
    · rw [if_pos q] at h
      exact br_t (by rw [q]; rfl) (cmp 0 (by decide) (by decide) h)
    · rw [if_neg q] at h
      have nz : ¬ nI (ltr so k) = 0 := nI_ne0 (by omega) (by omega)
      have hag : ags so k < 2147483648 := by have := ags_le w hk; omega
      refine br_f nz (C_agesOf (d := d) T C w hk ⟨vk, by rw [e22]; exact nz, ?_⟩)
      rw [e22, i_div hag (by omega) (by omega)]
      exact cmp _ (Nat.lt_of_le_of_lt (Nat.div_le_self _ _) hag) (by decide) h
  · rw [if_neg (by decide), if_neg (by decide), if_neg (by decide), if_neg (by decide), if_neg (by decide)] at h
    exact ⟨fun z => absurd z (by decide), fun z => absurd z (by decide), fun z => absurd z (by decide), fun z => absurd z (by decide), fun z => absurd z (by decide), fun z => absurd z (by decide), fun z => absurd z (by decide), fun _ => ⟨vk, cmp _ (by omega) (by decide) h⟩, fun _ _ _ _ _ _ _ z => absurd rfl z⟩
  · rw [if_neg (by decide), if_neg (by decide), if_neg (by decide), if_neg (by decide), if_neg (by decide)] at h
    exact ⟨fun z => absurd z (by decide), fun z => absurd z (by decide), fun z => absurd z (by decide), fun z => absurd z (by decide), fun z => absurd z (by decide), fun z => absurd z (by decide), fun z => absurd z (by decide), fun z => absurd z (by decide), fun _ _ _ _ _ _ _ _ => cmp _ (by omega) (by decide) h⟩
end Sen6
