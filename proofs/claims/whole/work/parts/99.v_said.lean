/-! the class: what is said of the casks -/
def sy6 (I : sI) (P : sP) (K : sK) (o : Option Nat) (sn : Option (List itT)) : Prop := match sn with
  | none => o = none
  | some L => ∃ s, o = some s ∧ shN P K s ∧ rN6 I s L ∧ L.length ≤ 40 ∧ pl L ≤ 20 ∧ ∀ i, i < L.length → okIt (L.getD i it0)
theorem saidL_low {v : Nat → Bool} {x : Int32} (hx : ¬ (-1 : Int32) ≤ x) : ∀ (f p c : Nat), c + f ≤ 1000 → saidL v x f p c = -1 := by
  have ne : ∀ c, c ≤ 1000 → ¬ nI c = x := fun c hc z => hx (by rw [← z]; exact Int32.le_trans (by decide) (nI_pos' (n := c) (by omega)))
  intro f
  induction f with
  | zero =>
    intro p c _
    show (if x = -1 then nI c else -1) = -1
    rw [if_neg (fun z => hx (by rw [z]; decide))]
  | succ f ih =>
    intro p c hc
    simp only [saidL]
    split
    · rw [if_neg (ne c (by omega)), ih _ _ (by omega)]
    · exact ih _ _ (by omega)
section Said6
variable {G : gG} {d : Nat} {I : sI} {J : sJ} {P : sP} {K : sK} {n : Nat} {F : Int32 → sI → sJ → Prop} {hd so : Nat → Nat} {c l : Nat}
theorem C_said (x : Int32) {sn : Option (List itT)} (hX : shX P K) (h8 : P 0 8 = some c) (S : sC P K c l) (Y : rL I l hd) (C : rC I c hd so) (w : wf hd so) (hs : sy6 I P K (P 0 10) sn) (h : F (vSaid hd so sn x) I J) : ckI G (d + 4) mX11_said [.ref 0, .int x] I J P K n F := by
  have hcs := wf_casks w
  refine bX11_said_0 hX _ ?_
  cases sn with
  | none =>
    have hs : P 0 10 = none := hs
    exact ⟨fun b e => (by rw [hs] at e; cases e), fun _ => h⟩
  | some L =>
    obtain ⟨s, e10, hN, R, l40, p20, ok⟩ := hs
    refine ⟨fun b e => ?_, fun e => (by rw [e10] at e; cases e)⟩
    rw [e10] at e
    cases e
    refine ⟨hN, ?_⟩
    have h : F (saidL (sayB hd so L) x (hd 1) 0 0) I J := h
    by_cases hx : (-1 : Int32) ≤ x
    · refine br_t hx ?_
      have lp : ∀ (f p cn : Nat), p + f = hd 1 → cn ≤ p → F (saidL (sayB hd so L) x f p cn) I J → Ok G (d + 4) mX11_said 21 [some (.ref 0), some (.int x), some (.ref s), some (.int (nI cn)), some (.int (nI p))] [] I J P K n (kI P K n F) := by
        intro f
        induction f with
        | zero =>
          intro p cn hp hc h
          refine bX11_said_21 hX _ _ _ _ hN ⟨c, h8, S.1, l, S.2.1, S.2.2.1, ?_⟩
          rw [Y.1 1 (by decide)]
          refine br_t (nI_le (by omega) (by omega)) ?_
          have h : F (if x = -1 then nI cn else -1) I J := h
          by_cases q : x = -1
          · rw [if_pos q] at h; exact br_t q h
          · rw [if_neg q] at h; exact br_f q h
        | succ f ih =>
          intro p cn hp hc h
          simp only [saidL] at h
          refine bX11_said_21 hX _ _ _ _ hN ⟨c, h8, S.1, l, S.2.1, S.2.2.1, ?_⟩
          rw [Y.1 1 (by decide)]
          refine br_f (nI_ge (by omega) (by omega)) ⟨c, h8, S.1, C_holds hN S Y C w R l40 p20 ok (by omega) (b01n (fun e => ?_) (fun e => ?_))⟩
          · rw [if_neg (by rw [e]; decide)] at h
            rw [nI_1]
            exact ih (p + 1) cn (by omega) (by omega) h
          · rw [if_pos e] at h
            by_cases q : nI cn = x
            · rw [if_pos q] at h; exact br_t q h
            · rw [if_neg q] at h
              refine br_f q ?_
              rw [nI_1, nI_1]
              exact ih (p + 1) (cn + 1) (by omega) (by omega) h
      exact lp (hd 1) 0 0 (by omega) (by omega) h
    · rw [saidL_low hx _ _ _ (by omega)] at h
      exact br_f hx h
end Said6
