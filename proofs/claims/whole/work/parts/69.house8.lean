section ModHouse8
variable {G : gG} {d : Nat} {I : sI} {J : sJ} {P : sP} {K : sK} {n : Nat} {F : Int32 → sI → sJ → Prop}
def hoPost (I : sI) (J : sJ) (F : Int32 → sI → sJ → Prop) (r : pE (hS × Nat)) : Prop := match r with
  | .error e => ∀ I' J', I' 91 0 = 0 → I' 91 2 = nI 0 → I' 91 10 = nI e.1 → (∀ c k, c ≠ 94 → ¬ (c = 91 ∧ (k = 0 ∨ (2 ≤ k ∧ k ≤ 11) ∨ k = 13 ∨ (23 ≤ k ∧ k ≤ 26))) → I' c k = I c k) → (∀ c k, c ≠ 99 → ¬ (c = 91 ∧ k = 12) → J' c k = J c k) → F ((-1) - nI e.2) I' J'
  | .ok p => ∀ I' J', wH p.1 → rM I' p.1.1 (stS p.1.1) → (∀ k, 1678 ≤ k → k < 1920 → I' 93 k = 0) → I' 91 27 = 0 → I' 91 0 = 0 → I' 91 2 = nI 0 → I' 91 10 = nI 0 → rNm J' p.1.1 p.1.2.1 → (∀ c k, c ≠ 94 → c ≠ 93 → ¬ (c = 91 ∧ (k = 0 ∨ (2 ≤ k ∧ k ≤ 11) ∨ k = 13 ∨ (23 ≤ k ∧ k ≤ 27))) → I' c k = I c k) → (∀ c k, c ≠ 99 → c ≠ 98 → ¬ (c = 91 ∧ k = 12) → J' c k = J c k) → F (nI p.2) I' J'
theorem pHs_wH {nx : tokT → tokT} : ∀ (f : Nat) (H : hS) (t : tokT) (c : Nat) (p : hS × Nat), wH H → pHs nx f H t c = .ok p → wH p.1 := by
  intro f
  induction f with
  | zero => intro H t c p w h; cases h; exact w
  | succ f ih =>
    intro H t c p w h
    simp only [pHs] at h
    split at h
    · cases h; exact w
    · split at h
      · cases h
      · rename_i q hq
        split at h
        · exact ih _ _ _ _ (wH_line w hq) h
        · cases h
theorem M_house {tl : Nat} {tp : Nat → Nat} (hM : shM P K) (T : rT I tl tp) (h : hoPost I J F (pHouse tp tl)) : ckI G (d + 5) mX12_house [.ref 91] I J P K n F := by
  refine bX12_house_0 hM (M_begin (lm := 900) (by decide) hM T (fun I1 J1 R1 e0 e2 e10 f1 => ?_))
  refine M_startTold (shM_K94 hM) (by decide) (by decide) (fun I2 g1 g2 _ => ?_)
  generalize hB : u2 (u2 (u2 (u2 I2 91 23 0) 91 24 0) 91 25 0) 91 26 0 = B
  have b1 : ∀ c k, ¬ (c = 91 ∧ 23 ≤ k ∧ k ≤ 26) → B c k = I2 c k := fun c k hc => by
    rw [← hB]; simp only [u2]; rw [if_neg (by omega), if_neg (by omega), if_neg (by omega), if_neg (by omega)]
  have b2 : ∀ c k, c ≠ 94 → ¬ (c = 91 ∧ 23 ≤ k ∧ k ≤ 26) → B c k = I1 c k := fun c k h1 h2 => (b1 c k h2).trans (g2 c k h1)
  have R2 : rP B J1 tl 900 tp (tok tp tl 900 0) := rP_of R1 (fun k h1 h2 => b2 91 k (by decide) (by omega)) (fun j => b2 92 j (by decide) (by omega)) rfl
  have A : rH B J1 H0 := by
    refine ⟨fun k hk => ?_, fun s hs => absurd hs (by show ¬ s < h0 0; exact Nat.not_lt_zero s), ?_, ?_, ?_, ?_⟩
    · rw [b1 94 k (by omega)]; exact g1 k hk
    · rw [← hB, u2_k _ _ _ _ (by decide), u2_k _ _ _ _ (by decide), u2_k _ _ _ _ (by decide), u2_s]; rfl
    · rw [← hB, u2_k _ _ _ _ (by decide), u2_k _ _ _ _ (by decide), u2_s]; rfl
    · rw [← hB, u2_k _ _ _ _ (by decide), u2_s]; rfl
    · rw [← hB, u2_s]; rfl
  refine M_house36 (I0 := B) (J0 := J1) hM 941 H0 _ 0 B J1 (by have := T.2.1; omega) R2 A wH_0 (frH_rf _ _) rfl ?_
  cases hr : pHouse tp tl with
  | error e =>
    have hr' : pHs (nxT tp tl 900) 941 H0 (tok tp tl 900 0) 0 = .error e := hr
    rw [hr] at h
    rw [hr']
    intro I' J' a1 a2 a3
    refine h I' J' ?_ ?_ a1 (fun c k h1 h2 => ?_) (fun c k h1 h2 => ?_)
    · rw [a2 91 0 (by decide) (by omega), b2 91 0 (by decide) (by omega)]; exact e0
    · rw [a2 91 2 (by decide) (by omega), b2 91 2 (by decide) (by omega)]; exact e2
    · rw [a2 c k h1 (by omega), b2 c k h1 (by omega)]; exact f1.1 c k (by omega)
    · rw [a3 c k h1 h2]; exact f1.2 c k h2
  | ok p =>
    have hr' : pHs (nxT tp tl 900) 941 H0 (tok tp tl 900 0) 0 = .ok p := hr
    rw [hr] at h
    rw [hr']
    intro I' J' a1 a2 a3 a4 a5 a6 a7 a8
    refine h I' J' (pHs_wH _ _ _ _ _ wH_0 hr') ⟨fun k hk => a1 k (by omega), a2⟩ a3 a4 ?_ ?_ ?_ a6 (fun c k h1 h2 h3 => ?_) (fun c k h1 h2 h3 => ?_)
    · rw [a7 91 0 (by decide) (by decide) (by omega), b2 91 0 (by decide) (by omega)]; exact e0
    · rw [a7 91 2 (by decide) (by decide) (by omega), b2 91 2 (by decide) (by omega)]; exact e2
    · rw [a5, b2 91 10 (by decide) (by omega)]; exact e10
    · rw [a7 c k h1 h2 (by omega), b2 c k h1 (by omega)]; exact f1.1 c k (by omega)
    · rw [a8 c k h1 h2 h3]; exact f1.2 c k h3
theorem M_fault {v : Int32} (hM : shM P K) (e : I 91 10 = v) (h : F v (u2 I 91 0 0) J) : ckI G d mX12_fault [.ref 91] I J P K n F := by
  refine bX12_fault_0 hM ?_
  rw [e]; exact h
end ModHouse8
