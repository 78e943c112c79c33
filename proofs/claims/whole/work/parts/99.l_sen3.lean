/-! the class: whether a sentence holds -/
def pl : List itT → Nat
  | [] => 0
  | x :: xs => (if x.1 ≤ 12 then 0 else 1) + pl xs
theorem ev1_lt {pv : itT → Bool} {s m : Nat} {x : itT} (hs : s < 2 ^ m) (hm : 1 ≤ m) (hx : 10 ≤ x.1) : ev1 pv s x < 2 ^ (m + (if x.1 ≤ 12 then 0 else 1)) := by
  obtain ⟨k, rfl⟩ : ∃ k, m = k + 1 := ⟨m - 1, by omega⟩
  rw [Nat.pow_succ] at hs
  unfold ev1
  by_cases c0 : x.1 = 10
  · rw [if_pos c0, if_pos (by omega), Nat.add_zero, Nat.pow_succ]
    omega
  · rw [if_neg c0]
    by_cases c1 : x.1 = 11
    · rw [if_pos c1, if_pos (by omega), Nat.add_zero, Nat.pow_succ]
      omega
    · rw [if_neg c1]
      by_cases c2 : x.1 = 12
      · rw [if_pos c2, if_pos (by omega), Nat.add_zero, Nat.pow_succ]
        omega
      · rw [if_neg c2]
        by_cases c3 : x.1 ≤ 12
        · omega
        · rw [if_neg c3, Nat.pow_succ, Nat.pow_succ]
          split <;> omega
section Sen7
variable {G : gG} {d : Nat} {I : sI} {J : sJ} {P : sP} {K : sK} {n : Nat} {F : Int32 → sI → sJ → Prop} {hd so : Nat → Nat} {c l s : Nat}
theorem C_holds {k : Nat} {L : List itT} (S : shN P K s) (T : sC P K c l) (Y : rL I l hd) (C : rC I c hd so) (w : wf hd so) (R : rN6 I s L) (hL : L.length ≤ 40) (hp : pl L ≤ 20) (ok : ∀ i, i < L.length → okIt (L.getD i it0)) (hk : k < hd 1) (h : F (b01 (sayB hd so L k)) I J) : ckI G (d + 3) mX8_holds [.ref s, .ref c, .int (nI k)] I J P K n F := by
  have lp : ∀ (f i b : Nat), i + f = L.length → pl (L.drop i) ≤ 20 → b < 2 ^ (21 - pl (L.drop i)) → F (b01 (decide (ev (pvC hd so k) (L.drop i) b % 2 = 1))) I J → Ok G (d + 3) mX8_holds 5 [some (.ref s), some (.ref c), some (.int (nI k)), some (.int (nI b)), some (.int (nI i)), none, none] [] I J P K n (kI P K n F) := by
    intro f
    induction f with
    | zero =>
      intro i b hi h20 hb h
      rw [List.drop_of_length_le (by omega)] at h
      refine bX8_holds_5 _ _ _ _ _ S ?_
      rw [R.1]
      refine br_t (nI_le (by omega) (by omega)) ?_
      have h : F (b01 (decide (b % 2 = 1))) I J := h
      by_cases q : b % 2 = 1
      · rw [decide_eq_true q] at h
        exact br_t ((e_low b).mpr q) h
      · rw [decide_eq_false q] at h
        exact br_f (fun z => q ((e_low b).mp z)) h
    | succ f ih =>
      intro i b hi h20 hb h
      have hdr : L.drop i = L.getD i it0 :: L.drop (i + 1) := by
        rw [List.drop_eq_getElem_cons (by omega), List.getD_eq_getElem?_getD, List.getElem?_eq_getElem (by omega)]
        rfl
      have oki := ok i (by omega)
      have q1 := (R.2 i (by omega)).1
      rw [hdr] at h hb h20
      simp only [pl] at hb h20
      have h : F (b01 (decide (ev (pvC hd so k) (L.drop (i + 1)) (ev1 (pvC hd so k) b (L.getD i it0)) % 2 = 1))) I J := h
      have hpw : (2 : Nat) ^ 21 = 2097152 := by decide
      have hmx : ∀ m, m ≤ 21 → (2 : Nat) ^ m ≤ 2 ^ 21 := fun m hm => Nat.pow_le_pow_right (by decide) hm
      have hb31 : b < 2 ^ 31 := by
        have := hmx (21 - ((if (L.getD i it0).1 ≤ 12 then 0 else 1) + pl (L.drop (i + 1)))) (by omega)
        omega
      have hn := ev1_lt (pv := pvC hd so k) (x := L.getD i it0) hb (by omega) oki.1
      have hn' : ev1 (pvC hd so k) b (L.getD i it0) < 2 ^ (21 - pl (L.drop (i + 1))) := by
        refine Nat.lt_of_lt_of_le hn (Nat.pow_le_pow_right (by decide) ?_)
        split <;> split at h20 <;> omega
      have go := ih (i + 1) _ (by omega) (by omega) hn' h
      clear h
      refine bX8_holds_5 _ _ _ _ _ S ?_
      rw [R.1]
      refine br_f (nI_ge (by omega) (by omega)) ⟨nI_inN (by omega) (by decide), ?_⟩
      rw [nI_ck (by omega), q1, nI_1]
      have o1 := oki.1
      have o2 := oki.2.1
      have ne : ∀ y : Nat, y < 100 → (L.getD i it0).1 ≠ y → ¬ nI (L.getD i it0).1 = nI y := fun y h2 h3 z => h3 ((nI_eq (by omega) (by omega)).mp z)
      unfold ev1 at go
      by_cases c0 : (L.getD i it0).1 = 10
      · rw [if_pos c0] at go
        refine ⟨fun _ => ?_, fun z => absurd z (ne 11 (by decide) (by omega)), fun z => absurd z (ne 12 (by decide) (by omega)), fun z => absurd (by rw [c0]; rfl) z⟩
        rw [e_or hb31]
        exact go
      · rw [if_neg c0] at go
        by_cases c1 : (L.getD i it0).1 = 11
        · rw [if_pos c1] at go
          refine ⟨fun z => absurd z (ne 10 (by decide) c0), fun _ => ?_, fun z => absurd z (ne 12 (by decide) (by omega)), fun _ z => absurd (by rw [c1]; rfl) z⟩
          rw [e_and hb31]
          exact go
        · rw [if_neg c1] at go
          by_cases c2 : (L.getD i it0).1 = 12
          · rw [if_pos c2] at go
            refine ⟨fun z => absurd z (ne 10 (by decide) c0), fun z => absurd z (ne 11 (by decide) c1), fun _ => ?_, fun _ _ z => absurd (by rw [c2]; rfl) z⟩
            rw [e_not b]
            exact go
          · rw [if_neg c2] at go
            refine ⟨fun z => absurd z (ne 10 (by decide) c0), fun z => absurd z (ne 11 (by decide) c1), fun z => absurd z (ne 12 (by decide) c2), fun _ _ _ => C_plainHolds S T Y C w R (by omega) hL oki (by omega) hk (b01n (fun e => ?_) (fun e => ?_))⟩
            · rw [e, if_neg (by decide)] at go
              have := e_pl b 0 (by decide)
              rw [show nI 0 = (0 : Int32) from rfl] at this
              rw [this]
              exact go
            · rw [e, if_pos rfl] at go
              have := e_pl b 1 (by decide)
              rw [show nI 1 = (1 : Int32) from rfl] at this
              rw [this]
              exact go
  refine bX8_holds_0 _ _ _ (lp L.length 0 0 (by omega) (by rw [List.drop_zero]; exact hp) (Nat.two_pow_pos _) ?_)
  rw [List.drop_zero]
  exact h
end Sen7
