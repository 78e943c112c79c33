section ModSent6
variable {G : gG} {d : Nat} {I I0 : sI} {J J0 : sJ} {P : sP} {K : sK} {n : Nat} {F : Int32 → sI → sJ → Prop} {FV : sI → sJ → Prop} {hd so : Nat → Nat} {nm : Nat → List Nat} {tp : Nat → Nat}
/-- what sentence leaves -/
def snPost (I : sI) (J : sJ) (F : Int32 → sI → sJ → Prop) (r : pE sgT) : Prop := match r with
  | .error e => ∀ I' J', I' 91 0 = 0 → I' 91 2 = nI 0 → I' 91 10 = nI e.1 → (∀ a k, a ≠ 115 → ¬ (a = 91 ∧ (k = 0 ∨ (2 ≤ k ∧ k ≤ 11) ∨ k = 13 ∨ (50 ≤ k ∧ k ≤ 53))) → I' a k = I a k) → (∀ c k, ¬ (c = 91 ∧ k = 12) → J' c k = J c k) → F ((-1) - nI e.2) I' J'
  | .ok p => ∀ I' J', rSn I' (some p.1) → I' 91 0 = 0 → I' 91 2 = nI 0 → I' 91 10 = nI 0 → (∀ a k, a ≠ 115 → ¬ (a = 93 ∧ 1678 ≤ k) → ¬ (a = 91 ∧ (k = 0 ∨ (2 ≤ k ∧ k ≤ 11) ∨ k = 13 ∨ (50 ≤ k ∧ k ≤ 53))) → I' a k = I a k) → (∀ c k, ¬ (c = 91 ∧ k = 12) → J' c k = J c k) → F (nI p.2) I' J'
theorem M_sentence {tl : Nat} (hM : shM P K) (R : rM I hd so) (w : wf hd so) (N : rNm J hd nm) (T : rT I tl tp) (h : snPost I J F (pSen hd nm tp tl)) : ckI G (d + 41) mX12_sentence [.ref 91] I J P K n F := by
  refine bX12_sentence_0 hM (M_begin (lm := 200) (by decide) hM T (fun I1 J1 R1 e0 e2 e10 f1 => ?_))
  generalize hB : u2 (u2 (u2 I1 91 50 0) 91 51 0) 91 52 0 = B
  have bo : ∀ c k, ¬ (c = 91 ∧ 50 ≤ k ∧ k ≤ 52) → B c k = I1 c k := fun c k hk => by rw [← hB]; simp only [u2]; rw [if_neg (by omega), if_neg (by omega), if_neg (by omega)]
  have RB : rP B J1 tl 200 tp (tok tp tl 200 0) := rP_of R1 (fun k _ _ => bo 91 k (by omega)) (fun j => bo 92 j (by omega)) rfl
  have gB : rG B ([], 0) (fun _ => (0, 0, 0, 0)) := by
    refine ⟨?_, ?_, by decide, fun i hi => absurd hi (Nat.not_lt_zero i), fun i hi => absurd hi (Nat.not_lt_zero i)⟩
    · rw [← hB, u2_k _ _ _ _ (by decide), u2_k _ _ _ _ (by decide), u2_s]; rfl
    · rw [← hB, u2_k _ _ _ _ (by decide), u2_s]; rfl
  have b52 : B 91 52 = nI 0 := by rw [← hB, u2_s]; rfl
  have okd := okSd_d (nxT tp tl 200) hd nm 8
  have S1 := M_readSaid (G := G) (n := n) (sz := tl) (lm := 200) (tp := tp) (nm := nm) hM w.1 8 0 (d + 32) (by decide) (by omega)
  have S2 := M_readAnd (D := d + 36) hM okd S1
  have S3 := M_readOr (D := d + 37) hM (okLp0 okd 21) S2
  have e93 : B 93 0 = nI (hd 0) := by rw [bo 93 0 (by omega), f1.1 93 0 (by omega)]; exact R.1 0 (by decide)
  refine S3 B J1 ([], 0) _ _ _ RB gB (Nat.le_refl _) b52 e93 (rNm_of N (fun k => f1.2 98 k (by omega))) ?_
  have z0 : B 91 0 = 0 := (bo 91 0 (by omega)).trans e0
  have z2 : B 91 2 = nI 0 := (bo 91 2 (by omega)).trans e2
  have z10 : B 91 10 = nI 0 := (bo 91 10 (by omega)).trans e10
  have fB : ∀ a k, ¬ (a = 91 ∧ (k = 0 ∨ (2 ≤ k ∧ k ≤ 10) ∨ (50 ≤ k ∧ k ≤ 52))) → B a k = I a k := fun a k hk => by rw [bo a k (by omega)]; exact f1.1 a k (by omega)
  unfold pSen at h
  cases hp : pOrW (nxT tp tl 200) (pSd (nxT tp tl 200) hd nm 8) ([], 0) (tok tp tl 200 0) with
  | error e =>
    have hp' : pLp (nxT tp tl 200) 10 (pLp (nxT tp tl 200) 11 (pSd (nxT tp tl 200) hd nm 8) 21 false) 21 false ([], 0) (tok tp tl 200 0) = .error e := hp
    rw [hp] at h
    rw [hp']
    intro I' J' a1 a2 a3
    refine br_t rfl ?_
    rw [a2]
    refine h I' J' ?_ ?_ a1 (fun a k h1 h2 => ?_) (fun c k h1 => ?_)
    · rw [a3.1 91 0 (by decide) (by omega)]; exact z0
    · rw [a3.1 91 2 (by decide) (by omega)]; exact z2
    · rw [a3.1 a k h1 (by omega)]; exact fB a k (by omega)
    · rw [a3.2 c k h1]; exact f1.2 c k h1
  | ok p =>
    have hp' : pLp (nxT tp tl 200) 10 (pLp (nxT tp tl 200) 11 (pSd (nxT tp tl 200) hd nm 8) 21 false) 21 false ([], 0) (tok tp tl 200 0) = .ok p := hp
    simp only [hp] at h
    rw [hp']
    intro I3 J3 nd3 top sg R3 g3 es3 en3 h53 htop ho3 k52 k10 f3
    refine br_f (by decide) ?_
    obtain ⟨sg', q1, q2, q3, q4⟩ := okLp0 (okLp0 okd 21) 21 ([], 0) _ p (by decide) hp'
    simp only [List.nil_append] at es3 q1 q3 q2
    have hlen : p.1.1.length ≤ 40 := by rw [q1]; omega
    have k4 := R3.2.2.1
    rw [R3.2.1.1]
    refine ⟨fun q => ?_, fun q => ?_⟩
    · have e : p.2.1 = 0 := (nI_eq (by omega) (by decide)).mp q
      rw [if_pos e] at h
      rw [h53]
      generalize hC : u2 (u2 I3 93 1678 1) 93 1679 (nI top) = C
      have co : ∀ c k, ¬ (c = 93 ∧ (k = 1678 ∨ k = 1679)) → C c k = I3 c k := fun c k hk => by rw [← hC]; simp only [u2]; rw [if_neg (by omega), if_neg (by omega)]
      have key := loopN 240 (fun j => Ok G (d + 41) mX12_sentence 79 [some (.ref 91), some (.int (nI j))] [] (wr C 93 1680 j (fun k => I3 115 k)) J3 P K n (kI P K n F)) ?_ ?_ 0 (by decide)
      · rw [wr_0] at key; exact key
      · refine bX12_sentence_79 hM _ (br_t (nI_le (b := 240) (Nat.le_refl 240) (by decide)) ?_)
        have e51 : wr C 93 1680 240 (fun k => I3 115 k) 91 51 = nI p.1.2 := by rw [wr_a _ _ _ _ _ (by decide), co 91 51 (by omega)]; exact g3.2.1
        rw [e51]
        have hw : wfN nd3 (top + 1) := fun i hi => g3.2.2.2.1 i (by omega)
        refine h _ J3 ⟨?_, nd3, top, ?_, by omega, hw, fun i hi => ?_, ?_⟩ ?_ ?_ ?_ (fun a k h1 h2 h3 => ?_) (fun c k h1 => ?_)
        · rw [wr_k _ _ _ _ _ _ (by omega), ← hC, u2_k _ _ _ _ (by decide), u2_s]
        · rw [wr_k _ _ _ _ _ _ (by omega), ← hC, u2_s]
        · have gi := g3.2.2.2.2 i (by omega)
          have wi : ∀ z, z < 240 → wr C 93 1680 240 (fun k => I3 115 k) 93 (1680 + z) = I3 115 z := fun z hz => wr_in _ _ _ _ _ hz
          rw [wi _ (by omega), Nat.add_assoc 1680 (4 * i) 1, wi _ (by omega), Nat.add_assoc 1680 (4 * i) 2, wi _ (by omega), Nat.add_assoc 1680 (4 * i) 3, wi _ (by omega)]
          exact gi
        · rw [es3]; exact ho3
        · rw [wr_a _ _ _ _ _ (by decide), co 91 0 (by omega), f3.1 91 0 (by decide) (by omega)]; exact z0
        · rw [wr_a _ _ _ _ _ (by decide), co 91 2 (by omega), f3.1 91 2 (by decide) (by omega)]; exact z2
        · rw [wr_a _ _ _ _ _ (by decide), co 91 10 (by omega), k10]; exact z10
        · have e1 : wr C 93 1680 240 (fun k => I3 115 k) a k = C a k := by
            by_cases c : a = 93
            · exact wr_k _ _ _ _ _ _ (by omega)
            · exact wr_a _ _ _ _ _ c
          rw [e1, co a k (by omega), f3.1 a k h1 (by omega)]; exact fB a k (by omega)
        · rw [f3.2 c k h1]; exact f1.2 c k h1
      · intro j hj ih
        refine bX12_sentence_79 hM _ (br_f (nI_ge (b := 240) hj (by decide)) ?_)
        have e1 : (1680 + nI j : Int32) = nI (1680 + j) := i_add 1680 j
        rw [e1]
        refine ⟨nI_inN hj (by decide), nI_inN (by omega) (by decide), ?_⟩
        rw [nI_ck (by omega), nI_ck (by omega), nI_1, wr_a _ _ _ _ _ (show 115 ≠ 93 by decide), co 115 j (by omega)]
        have e := wr_s C 93 1680 j (fun k => I3 115 k)
        rw [e]
        exact ih
    · have e : ¬ p.2.1 = 0 := fun z => q (by rw [z]; rfl)
      rw [if_neg e] at h
      refine M_bad 1 hM R3.2.1 R3.2.2 (fun I' a1 a2 a3 => ?_)
      rw [a2]
      refine h I' J3 ?_ ?_ a1 (fun a k h1 h2 => ?_) (fun c k h1 => ?_)
      · rw [a3 91 0 (by omega), f3.1 91 0 (by decide) (by omega)]; exact z0
      · rw [a3 91 2 (by omega), f3.1 91 2 (by decide) (by omega)]; exact z2
      · rw [a3 a k (by omega), f3.1 a k h1 (by omega)]; exact fB a k (by omega)
      · rw [f3.2 c k h1]; exact f1.2 c k h1
end ModSent6
