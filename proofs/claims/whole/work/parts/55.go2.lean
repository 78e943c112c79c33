/-! the reference: go, the whole -/
section ModGo2
variable {G : gG} {d : Nat} {I : sI} {J : sJ} {P : sP} {K : sK} {n : Nat} {F : Int32 → sI → sJ → Prop} {FV : sI → sJ → Prop} {sz lm : Nat} {tp : Nat → Nat}
theorem frGo_J (I : sI) (J : sJ) (v : Int64) : frGo I I J (u2 J 91 12 v) := ⟨fun _ _ _ => rfl, fun c k a => by simp only [u2]; rw [if_neg a]⟩
theorem M_go215 {q : Nat} (L : Bool) (hL : isL (tp q) = L) (hM : shM P K) : ∀ (f p : Nat) (I : sI) (J : sJ), sz - p = f → q ≤ p → p ≤ sz → (p = q → q < sz ∧ (isL (tp q) || isD (tp q)) = true) → rS I sz lm tp → rRun I J tp q p (allB (sameB tp q) (p - q)) → (∀ I' J', rTok I' J' (tokR tp q (rln tp sz f p)) → frGo I I' J J' → FV I' J') → Ok G (d + 1) mX12_go 215 [some (.ref 91), none, some (.int (b01 L)), some (.int (b01 (allB (sameB tp q) (p - q)))), none] [] I J P K n (kV P K n FV) := by
  intro f
  induction f with
  | zero =>
    intro p I J hf hq hp h0 S B h
    have hsz := S.2.2.1
    have hpe : p = sz := by omega
    have eT : tpA tp sz p = 0 := by unfold tpA; rw [if_neg (by omega)]
    have hqp : q < p := by
      rcases Nat.lt_or_ge q p with g | g
      · exact g
      · have := h0 (by omega); omega
    refine bX12_go_215 hM _ _ ?_
    rw [B.1]
    refine M_tapeAt hM S (by omega) ?_
    rw [eT]
    refine M_isLetter (by decide) (br_t (by decide) ?_)
    rw [B.1]
    refine M_tapeAt hM S (by omega) ?_
    rw [eT]
    refine M_isDigit (by decide) (br_t (by decide) ?_)
    have key := M_goEnd L hL hqp (by omega) B (FV := FV) (fun I' t fr => h I' J t fr)
    exact key
  | succ f ih =>
    intro p I J hf hq hp h0 S B h
    have hsz := S.2.2.1
    have hps : p < sz := by omega
    have eT : tpA tp sz p = tp p := by unfold tpA; rw [if_pos hps]
    have ht := S.2.2.2.2 p hps
    -- the end
    by_cases al : (isL (tp p) || isD (tp p)) = true
    · have er : rln tp sz (f + 1) p = rln tp sz f (p + 1) := by simp only [rln]; rw [if_pos ⟨hps, al⟩]
      rw [er] at h
      have e1 : p + 1 - q = (p - q) + 1 := by omega
      have eg : allB (sameB tp q) (p + 1 - q) = (allB (sameB tp q) (p - q) && (isL (tp p) == L)) := by
        rw [e1]
        show (allB (sameB tp q) (p - q) && sameB tp q (p - q)) = _
        unfold sameB
        rw [show q + (p - q) = p by omega, hL]
      -- what goes on, from 307
      have go3 : ∀ J' g, g = allB (sameB tp q) (p + 1 - q) → frGo I I J J' → (isL (tp q) = true → g = true → p + 1 - q ≤ 7 → J' 91 12 = lN (vB 27 (lets tp q (p + 1 - q)) 0)) → Ok G (d + 1) mX12_go 307 [some (.ref 91), none, some (.int (b01 L)), some (.int (b01 g)), some (.int (nI (tp p)))] [] I J' P K n (kV P K n FV) := by
        intro J' g hg fJ hw
        subst hg
        have gt : allB (sameB tp q) (p + 1 - q) = true → allB (sameB tp q) (p - q) = true ∧ isL (tp p) = L := fun a => by
          rw [eg] at a
          simp only [Bool.and_eq_true, beq_iff_eq] at a
          exact a
        refine M_go307 L hL hM S hq hps B.1 B.2.1 (fun a b => ?_) hw (fun a b c => B.2.2.2 a (gt b).1 c) (fun I' B' fr => ?_)
        · have := (gt b).2
          rw [a] at this
          rw [this] at al
          exact al
        · exact ih (p + 1) I' J' (by omega) (by omega) (by omega) (fun e => by omega) (rS_fr S fr) B' (fun I2 J2 t f2 => h I2 J2 t (frGo_tr fJ (frGo_tr fr f2)))
      have e7 : I 91 5 - I 91 6 = nI (p - q) := by rw [B.1, B.2.1, i_sub hq]
      -- from 243
      have go2 : Ok G (d + 1) mX12_go 243 [some (.ref 91), none, some (.int (b01 L)), some (.int (b01 (allB (sameB tp q) (p - q)))), none] [] I J P K n (kV P K n FV) := by
        have go1 : allB (sameB tp q) (p + 1 - q) = false → Ok G (d + 1) mX12_go 271 [some (.ref 91), none, some (.int (b01 L)), none, some (.int (nI (tp p)))] [] I J P K n (kV P K n FV) := by
          intro e
          refine bX12_go_271 hM _ _ ?_
          exact ⟨fun _ => go3 J false e.symm (frGo_rf I J) (fun _ b => by cases b), fun _ => go3 _ false e.symm (frGo_J I J _) (fun _ b => by cases b)⟩
        refine bX12_go_243 hM _ _ ?_
        rw [B.1, nI_ck (by omega), ht.1]
        refine ⟨nI_inN (by omega) (by decide), b01n (fun g => go1 (by rw [eg, g]; rfl)) (fun g => M_isLetter (by omega) ?_)⟩
        rw [B.1, B.2.1, i_sub hq]
        by_cases q2 : isL (tp p) = L
        · have egt : allB (sameB tp q) (p + 1 - q) = true := by rw [eg, g, q2]; simp
          refine br_t (by rw [q2]) ?_
          by_cases q7 : 7 ≤ p - q
          · exact br_t (nI_le (a := 7) q7 (by omega)) (go3 J true egt.symm (frGo_rf I J) (fun _ _ c => by omega))
          · refine br_f (nI_ge (b := 7) (by omega) (by decide)) (go3 _ true egt.symm (frGo_J I J _) (fun a _ c => ?_))
            have hl : isL (tp p) = true := by rw [q2, ← hL]; exact a
            simp only [isL, Bool.and_eq_true, decide_eq_true_eq] at hl
            rw [u2_s, B.2.2.1 a g (by omega), lN27 (by omega) (by omega), e1]
            show _ = lN (vB 27 (lets tp q (p - q) ++ [tp (q + (p - q)) - 96]) 0)
            rw [vB_snoc, show q + (p - q) = p by omega]
        · refine br_f (fun e => q2 ?_) (go1 (by rw [eg, g]; simp [q2]))
          cases e5 : isL (tp p) <;> cases L <;> rw [e5] at e <;> simp [b01] at e ⊢
      refine bX12_go_215 hM _ _ ?_
      rw [B.1]
      refine M_tapeAt hM S (by omega) ?_
      rw [eT]
      refine M_isLetter (by omega) (b01n (fun l => ?_) (fun _ => go2))
      rw [B.1]
      refine M_tapeAt hM S (by omega) ?_
      rw [eT]
      refine M_isDigit (by omega) (b01n (fun l2 => ?_) (fun _ => go2))
      rw [l, l2] at al
      cases al
    · have er : rln tp sz (f + 1) p = p := by simp only [rln]; rw [if_neg (fun e => al e.2)]
      rw [er] at h
      have al1 : isL (tp p) = false := by
        cases e : isL (tp p)
        · rfl
        · rw [e] at al; exact absurd rfl al
      have al2 : isD (tp p) = false := by
        cases e : isD (tp p)
        · rfl
        · rw [e, Bool.or_true] at al; exact absurd rfl al
      have hqp : q < p := by
        rcases Nat.lt_or_ge q p with g | g
        · exact g
        · have e : p = q := by omega
          subst e
          exact absurd (h0 rfl).2 al
      refine bX12_go_215 hM _ _ ?_
      rw [B.1]
      refine M_tapeAt hM S (by omega) ?_
      rw [eT]
      refine M_isLetter (by omega) (br_t (by rw [al1]; rfl) ?_)
      rw [B.1]
      refine M_tapeAt hM S (by omega) ?_
      rw [eT]
      refine M_isDigit (by omega) (br_t (by rw [al2]; rfl) ?_)
      have key := M_goEnd L hL hqp (by omega) B (FV := FV) (fun I' t fr => h I' J t fr)
      exact key
end ModGo2
