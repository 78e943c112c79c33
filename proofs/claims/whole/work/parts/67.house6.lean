/-! ranges written in a loop; tokens go on; a whole house -/
def wr {α : Type} (I : Nat → Nat → α) (a lo j : Nat) (f : Nat → α) : Nat → Nat → α := fun a' k => if a' = a ∧ lo ≤ k ∧ k < lo + j then f (k - lo) else I a' k
theorem wr_0 {α : Type} (I : Nat → Nat → α) (a lo : Nat) (f : Nat → α) : wr I a lo 0 f = I := by
  funext a' k; unfold wr; rw [if_neg (by omega)]
theorem wr_in {α : Type} (I : Nat → Nat → α) (a lo j : Nat) (f : Nat → α) {k : Nat} (h : k < j) : wr I a lo j f a (lo + k) = f k := by
  unfold wr; rw [if_pos ⟨rfl, by omega, by omega⟩, show lo + k - lo = k by omega]
theorem wr_a {α : Type} (I : Nat → Nat → α) {a a' : Nat} (lo j : Nat) (f : Nat → α) (k : Nat) (h : a' ≠ a) : wr I a lo j f a' k = I a' k := by
  unfold wr; rw [if_neg (fun q => h q.1)]
theorem wr_k {α : Type} (I : Nat → Nat → α) (a a' lo j : Nat) (f : Nat → α) {k : Nat} (h : k < lo ∨ lo + j ≤ k) : wr I a lo j f a' k = I a' k := by
  unfold wr; rw [if_neg (by omega)]
theorem wr_s {α : Type} (I : Nat → Nat → α) (a lo j : Nat) (f : Nat → α) : u2 (wr I a lo j f) a (lo + j) (f j) = wr I a lo (j + 1) f := by
  funext a' k
  unfold u2 wr
  by_cases e : a' = a
  · by_cases e2 : k = lo + j
    · subst e2; rw [if_pos ⟨e, rfl⟩, if_pos ⟨e, by omega, by omega⟩, show lo + j - lo = j by omega]
    · rw [if_neg (fun q => e2 q.2)]
      by_cases e3 : lo ≤ k ∧ k < lo + j
      · rw [if_pos ⟨e, e3⟩, if_pos ⟨e, e3.1, by omega⟩]
      · rw [if_neg (fun q => e3 q.2), if_neg (fun q => e3 ⟨q.2.1, by omega⟩)]
  · rw [if_neg (fun q => e q.1), if_neg (fun q => e q.1), if_neg (fun q => e q.1)]
theorem rln_gt {tp : Nat → Nat} {sz q : Nat} (h : q < sz) (hc : alB tp q = true) : q < rln tp sz (sz - q) q := by
  obtain ⟨f, hf⟩ : ∃ f, sz - q = f + 1 := ⟨sz - q - 1, by omega⟩
  rw [hf]
  simp only [rln]
  rw [if_pos ⟨h, hc⟩]
  have := (rln_ok tp sz f (q + 1) (by omega)).1
  omega
theorem tokR_to (tp : Nat → Nat) (q e : Nat) : (tokR tp q e).2.2.1 = e := by
  unfold tokR
  repeat' (first | rfl | split)
theorem tok_adv {tp : Nat → Nat} {sz lm p : Nat} (hp : p ≤ sz) : p ≤ (tok tp sz lm p).2.2.1 ∧ (2 ≤ (tok tp sz lm p).1 → p < (tok tp sz lm p).2.2.1) := by
  have hq := skp_le tp sz (sz - p) p hp
  unfold tok
  generalize skp tp sz (sz - p) p = q at hq
  unfold tokQ
  split
  · exact ⟨hq.2, fun h => by simp at h⟩
  · split
    · exact ⟨hq.2, fun h => by simp at h⟩
    · split
      · exact ⟨by show p ≤ q + 1; omega, fun _ => by show p < q + 1; omega⟩
      · rename_i h1 h2 h3
        rw [tokR_to]
        have : alB tp q = true := by
          unfold alB
          cases e1 : isL (tp q) <;> cases e2 : isD (tp q) <;> simp_all
        have := rln_gt (tp := tp) (sz := sz) (q := q) (by omega) this
        exact ⟨by omega, fun _ => by omega⟩
/-- a text that can be read -/
def okTx (tp : Nat → Nat) (sz lm : Nat) : Prop := sz ≤ 940 ∧ lm ≤ 1000 ∧ ∀ j, j < sz → tp j ≤ 255
theorem nx_to {tp : Nat → Nat} {sz lm : Nat} (o : okTx tp sz lm) {t : tokT} (h : t.2.2.1 ≤ sz) : t.2.2.1 ≤ (nxT tp sz lm t).2.2.1 ∧ (nxT tp sz lm t).2.2.1 ≤ sz := ⟨(tok_adv h).1, (tok_ok o.1 o.2.1 h o.2.2).2.1⟩
theorem rS_okTx {I : sI} {sz lm : Nat} {tp : Nat → Nat} (S : rS I sz lm tp) : okTx tp sz lm := ⟨S.2.2.1, S.2.2.2.1, fun j hj => (S.2.2.2.2 j hj).2⟩
theorem pLine_adv {tp : Nat → Nat} {sz lm : Nat} (o : okTx tp sz lm) {H : hS} {t : tokT} {p : hS × tokT} (ht : t.2.2.1 ≤ sz) (h : pLine (nxT tp sz lm) H t = .ok p) : ∃ x : tokT, t.2.2.1 ≤ x.2.2.1 ∧ x.2.2.1 ≤ sz ∧ p.2 = nxT tp sz lm x := by
  have n1 := nx_to o ht
  have n2 := nx_to o n1.2
  have n3 := nx_to o n2.2
  have n4 := nx_to o n3.2
  unfold pLine at h
  split at h
  · unfold pScale at h
    split at h
    · cases h
    · split at h
      · cases h
      · split at h
        · cases h
        · split at h
          · cases h
          · rename_i q hq
            split at h
            · cases h
            · rename_i r hr
              cases h
              have r1 := (rdN_val hq).1
              have r2 := (rdN_val hr).1
              subst r1; subst r2
              exact ⟨_, by omega, n3.2, rfl⟩
  · split at h
    · unfold pWine at h
      split at h
      · cases h
      · split at h
        · cases h
        · split at h
          · cases h
          · rename_i q hq
            split at h
            · cases h
            · rename_i r hr
              split at h
              · cases h
              · rename_i u hu
                cases h
                have r1 := (rdN_val hq).1
                have r2 := (rdN_val hr).1
                have r3 := (rdN_val hu).1
                subst r1; subst r2; subst r3
                exact ⟨_, by omega, n4.2, rfl⟩
    · split at h
      · unfold pYear at h
        split at h
        · cases h
        · split at h
          · cases h
          · rename_i q hq
            cases h
            have r1 := (rdN_val hq).1
            subst r1
            exact ⟨_, n1.1, n1.2, rfl⟩
      · split at h
        · unfold pAngels at h
          split at h
          · cases h
          · split at h
            · cases h
            · rename_i q hq
              cases h
              have r1 := (rdN_val hq).1
              subst r1
              exact ⟨_, n1.1, n1.2, rfl⟩
        · split at h
          · unfold pMost at h
            split at h
            · cases h
            · split at h
              · cases h
              · rename_i q hq
                cases h
                have r1 := (rdN_val hq).1
                subst r1
                exact ⟨_, n1.1, n1.2, rfl⟩
          · cases h
theorem eE_4 {t : tokT} (h : eE t = 0) : t.1 = 4 ∧ t.2.2.2.1 = 59 := by
  unfold eE isS at h
  split at h
  · rename_i c
    rw [Bool.and_eq_true] at c
    exact ⟨of_decide_eq_true c.1, of_decide_eq_true c.2⟩
  · cases h
def pHs (nx : tokT → tokT) : Nat → hS → tokT → Nat → pE (hS × Nat)
  | 0, H, _, c => .ok (H, c)
  | f + 1, H, t, c => if t.1 = 0 then .ok (H, c) else match pLine nx H t with
    | .error e => .error e
    | .ok p => if eE p.2 = 0 then pHs nx f p.1 (nx p.2) (c + 1) else fl p.2 1
def h0 (k : Nat) : Nat := if k = 2 then 2 else if k = 3 then 400 else if k = 4 then 10 else 0
def H0 : hS := (h0, fun _ => [], false, false, false, false)
def pHouse (tp : Nat → Nat) (tl : Nat) : pE (hS × Nat) := pHs (nxT tp tl 900) 941 H0 (tok tp tl 900 0) 0
theorem wf_h0 : wf h0 (stS h0) := by
  refine wf_st (by decide) (fun s hs => absurd hs (by unfold h0; decide +revert)) rfl (by decide) (by decide) (by decide) (fun k hk => absurd hk (by unfold h0; decide +revert)) (fun k v hk _ _ => absurd hk (by unfold h0; decide +revert)) (fun s _ _ => ?_)
  unfold h0
  rw [if_neg (by omega), if_neg (by omega), if_neg (by omega)]; decide
theorem wH_0 : wH H0 := ⟨wf_h0, fun k _ _ v _ => by show h0 _ = 0; unfold h0; rw [if_neg (by omega), if_neg (by omega), if_neg (by omega)], fun _ j _ => by show h0 _ = 0; unfold h0; rw [if_neg (by omega), if_neg (by omega), if_neg (by omega)]⟩
