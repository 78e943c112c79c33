section ModHouse4
variable {G : gG} {d : Nat} {I I0 : sI} {J J0 : sJ} {P : sP} {K : sK} {n : Nat} {F : Int32 → sI → sJ → Prop} {FV : sI → sJ → Prop} {sz lm : Nat} {tp : Nat → Nat} {t : tokT} {H : hS}
theorem rH_u (k : Nat) (v : Int32) (hk : k ≠ 23 ∧ k ≠ 24 ∧ k ≠ 25 ∧ k ≠ 26) (A : rH I J H) : rH (u2 I 91 k v) J H := ⟨fun j hj => (u2_a _ _ _ _ (by decide)).trans (A.1 j hj), A.2.1, (u2_k _ _ _ _ (Ne.symm hk.1)).trans A.2.2.1, (u2_k _ _ _ _ (Ne.symm hk.2.1)).trans A.2.2.2.1, (u2_k _ _ _ _ (Ne.symm hk.2.2.1)).trans A.2.2.2.2.1, (u2_k _ _ _ _ (Ne.symm hk.2.2.2)).trans A.2.2.2.2.2⟩
theorem eN_range {t : tokT} {a b : Nat} (h : eN t a b = 0) : t.1 = 3 ∧ a ≤ t.2.2.2.1 ∧ t.2.2.2.1 ≤ b := by
  unfold eN at h
  split at h
  · split at h
    · rename_i h1 h2; exact ⟨h1, h2.1, h2.2⟩
    · cases h
  · cases h
theorem M_readWine (hM : shM P K) (R : rP I J sz lm tp t) (A : rH I J H) (w0 : wH H) (h : pPost I J sz lm tp F (pWine (nxT tp sz lm) H t)) : ckI G (d + 3) mX12_readWine [.ref 91] I J P K n F := by
  obtain ⟨h1, nm, y, a, m, w⟩ := H
  obtain ⟨A1, A2, A3, A4, A5, A6⟩ := A
  have wf1 : wf h1 (stS h1) := w0.1
  have h5 := wf1.1
  have hc := wf_casks wf1
  refine bX12_readWine_0 hM ?_
  have R1 : rP (u2 I 91 26 1) J sz lm tp t := rP_of R (fun k h1 h2 => u2_k _ _ _ _ (by omega)) (fun j => u2_a _ _ _ _ (by decide)) rfl
  have fh1 : frH I (u2 I 91 26 1) J J := ⟨fun c k h1 h2 => by simp only [u2]; rw [if_neg (by omega)], fun _ _ _ _ => rfl⟩
  refine M_next' hM R1 (fun I2 J2 R2 f => ?_)
  have fh : frH I I2 J J2 := frH_tr fh1 (frH_go f)
  simp only [pWine] at h
  have A94 : ∀ k, k < 815 → I2 94 k = nI (h1 k) := fun k hk => by rw [f.1 94 k (by omega), u2_a _ _ _ _ (by decide)]; exact A1 k hk
  refine M_isName hM R2.2.1 R2.2.2 (b01n (fun en => ?_) (fun en => ?_))
  · rw [if_pos en] at h
    exact M_badG (k := 1) hM R2 fh h
  · rw [if_neg (by rw [en]; decide)] at h
    have k2 := isN_2 en
    have ow := R2.2.2.2.2.2.1 k2
    have ej : J2 91 12 = lN (vB 27 (nxT tp sz lm t).2.2.2.2 0) := R2.2.1.2.2.2.2.2 k2
    rw [ej, A94 0 (by decide)]
    refine M_findIn (a := 99) (len := 5) (nm := nm) (shM_K99 hM) h5 (by decide) ow (fun s hs => ?_) ?_
    · rw [f.2 99 s (by omega)]; exact A2 s hs
    · cases hf : fndN nm (nxT tp sz lm t).2.2.2.2 (h1 0) 0 with
      | none =>
        rw [hf] at h
        exact br_t rfl (M_badG (k := 3) hM R2 fh h)
      | some s =>
        simp only [hf] at h
        have hs : s < h1 0 := by have := (fndN_lt hf).2.1; omega
        have hsz := wf1.2.1 s hs
        refine br_f (nI_nm1 (by omega)) (M_next' hM R2 (fun I3 J3 R3 f3 => ?_))
        rw [show oN (some s) = nI s from rfl]
        have e5 : (5 + nI s : Int32) = nI (5 + s) := by show nI 5 + nI _ = _; rw [i_add]
        have e10 : (10 + nI s : Int32) = nI (10 + s) := by show nI 10 + nI _ = _; rw [i_add]
        have B94 : ∀ k, k < 815 → I3 94 k = nI (h1 k) := fun k hk => by rw [f3.1 94 k (by omega)]; exact A94 k hk
        have fh3 := frH_tr fh (frH_go f3)
        have e51 : I3 94 (nI (5 + s)).toNatClampNeg - 1 = nI (h1 (5 + s) - 1) := by
          rw [nI_ck (by omega), B94 _ (by omega)]
          exact i_sub (b := 1) hsz.1
        rw [e5, e51]
        refine ⟨nI_inN (by omega) (by decide), M_readNumber (a := 0) (by decide) (by omega) hM R3 (fun e1 I4 J4 R4 g1 g2 => ?_) (fun e1 I4 a1 a2 a3 => ?_)⟩
        · refine br_f (by decide) ?_
          simp only [rdN_ok e1] at h
          have r1 := eN_range e1
          have C94 : ∀ k, k < 815 → I4 94 k = nI (h1 k) := fun k hk => by rw [g2.1 94 k (by omega)]; exact B94 k hk
          have fh4 := frH_tr fh3 (frH_R g2)
          have hkc : fst' h1 s + (nxT tp sz lm (nxT tp sz lm t)).2.2.2.1 < h1 1 := wf_in wf1 hs (by omega)
          have hso : sof h1 (fst' h1 s + (nxT tp sz lm (nxT tp sz lm t)).2.2.2.1) = s := sof_is (by omega) (by omega) (by rw [fst_succ]; omega)
          refine M_firstOf (shM_K94 hM) (by decide) (by decide) (by omega) (fun k hk => C94 _ (by omega)) ?_
          generalize hj : fst' h1 s + (nxT tp sz lm (nxT tp sz lm t)).2.2.2.1 = kk at h hkc hso
          rw [C94 4 (by decide)]
          have h' := h
          refine M_readNumber (a := 0) (by decide) (by have := wf1.2.2.2.2.2.1; omega) hM R4 (fun e2 I5 J5 R5 k1 k2 => ?_) (fun e2 I5 a1 a2 a3 => ?_)
          · simp only [rdN_ok e2] at h'
            have r2 := eN_range e2
            have D94 : ∀ k, k < 815 → I5 94 k = nI (h1 k) := fun k hk => by rw [k2.1 94 k (by omega)]; exact C94 k hk
            have fh5 := frH_tr fh4 (frH_R k2)
            have eA : (15 + 40 * (nI (fst' h1 s) + I4 91 13) : Int32) = nI (15 + 40 * kk) := by
              rw [g1, i_add, hj]
              show nI 15 + nI 40 * nI kk = _
              rw [i_mul, i_add]
            rw [eA, e10]
            refine br_f (by decide) ⟨nI_inN (by omega) (by decide), M_litresIn (q := 15 + 40 * kk) (f := wn (stS h1) kk) (shM_K94 hM) (by omega) (by decide) (fun v hv => by rw [D94 _ (by omega), stS_wn]) ?_⟩
            have eL : I5 94 (nI (10 + s)).toNatClampNeg - nI (sm (wn (stS h1) kk) 40) = nI (lck h1 (stS h1) kk) := by
              rw [nI_ck (by omega), D94 _ (by omega)]
              have q1 := wf1.2.2.2.2.2.2.2.1 kk hkc
              have q2 : hol h1 kk = h1 (10 + s) := by unfold hol; rw [hso]
              rw [q2] at q1
              have q3 : nI (h1 (10 + s)) - nI (ltr (stS h1) kk) = nI (h1 (10 + s) - ltr (stS h1) kk) := i_sub q1
              unfold lck; rw [q2]; exact q3
            rw [eL]
            have hlk := lck_le wf1 hkc
            have h2 := h'
            refine M_readNumber (a := 1) (by decide) (by omega) hM R5 (fun e3 I6 J6 R6 l1 l2 => ?_) (fun e3 I6 a1 a2 a3 => ?_)
            · simp only [rdN_ok e3] at h2
              have fh6 := frH_tr fh5 (frH_R l2)
              have E94 : ∀ k, k < 815 → I6 94 k = nI (h1 k) := fun k hk => by rw [l2.1 94 k (by omega)]; exact D94 k hk
              have hy := wf1.2.2.2.2.2.1
              have kk2 : kk < 20 := by omega
              rw [k1, i_add, nI_ck (by omega), l1, E94 _ (by omega), i_add]
              refine br_f (by decide) ⟨nI_inN (by omega) (by decide), nI_inN (by omega) (by decide), ?_⟩
              have o2 : ∀ (p : Nat) (v : Int32) (k : Nat), (u2 I6 94 p v) 91 k = I6 91 k := fun p v k => u2_a _ _ _ _ (by decide)
              have ofl : ∀ k, 23 ≤ k → k ≤ 25 → I6 91 k = I 91 k := fun k x1 x2 => by
                rw [l2.1 91 k (by omega), k2.1 91 k (by omega), g2.1 91 k (by omega), f3.1 91 k (by omega), f.1 91 k (by omega), u2_k _ _ _ _ (by omega)]
              refine h2 _ J6 ⟨fun k hk => ?_, fun s' hs' => ?_, ?_, ?_, ?_, ?_⟩ (rP_of R6 (fun k _ _ => o2 _ _ k) (fun j => u2_a _ _ _ _ (by decide)) rfl) ?_ (frH_tr fh6 ⟨fun c k hc _ => u2_a _ _ _ _ hc, fun _ _ _ _ => rfl⟩)
              · show _ = nI (wnH h1 kk _ _ k)
                unfold wnH
                by_cases c0 : k = 15 + 40 * kk + (nxT tp sz lm (nxT tp sz lm (nxT tp sz lm t))).2.2.2.1
                · subst c0; rw [up_s, u2_s]
                · rw [up_n _ _ c0, u2_k _ _ _ _ c0]; exact E94 k hk
              · have hs2 : s' < h1 0 := by
                  have e : wnH h1 kk (nxT tp sz lm (nxT tp sz lm (nxT tp sz lm t))).2.2.2.1 (nxT tp sz lm (nxT tp sz lm (nxT tp sz lm (nxT tp sz lm t)))).2.2.2.1 0 = h1 0 := up_n _ _ (by omega)
                  rw [← e]; exact hs'
                rw [l2.2 99 s' (by omega), k2.2 99 s' (by omega), g2.2 99 s' (by omega), f3.2 99 s' (by omega), f.2 99 s' (by omega)]
                exact A2 s' hs2
              · rw [o2, ofl 23 (by decide) (by decide)]; exact A3
              · rw [o2, ofl 24 (by decide) (by decide)]; exact A4
              · rw [o2, ofl 25 (by decide) (by decide)]; exact A5
              · rw [o2, l2.1 91 26 (by omega), k2.1 91 26 (by omega), g2.1 91 26 (by omega), f3.1 91 26 (by omega), f.1 91 26 (by omega), u2_s]; rfl
              · rw [o2, l2.1 91 10 (by omega), k2.1 91 10 (by omega), g2.1 91 10 (by omega), f3.1 91 10 (by omega), f.1 91 10 (by omega), u2_k _ _ _ _ (by omega)]
            · simp only [rdN_bad e3] at h2
              exact br_t rfl (h2 I6 J5 a1 a2 (frH_tr fh5 (frH_bad a3)))
          · simp only [rdN_bad e2] at h'
            exact br_t rfl (h' I5 J4 a1 a2 (frH_tr fh4 (frH_bad a3)))
        · simp only [rdN_bad e1] at h
          exact br_t rfl (h I4 J3 a1 a2 (frH_tr fh3 (frH_bad a3)))
theorem b01i {A B : Prop} {b : Bool} (h : if b then B else A) : (b01 b = 0 → A) ∧ (¬ b01 b = 0 → B) := by
  cases b
  · exact br_t rfl h
  · exact br_f (by decide) h
theorem M_readLine (hM : shM P K) (R : rP I J sz lm tp t) (A : rH I J H) (w0 : wH H) (h : pPost I J sz lm tp F (pLine (nxT tp sz lm) H t)) : ckI G (d + 4) mX12_readLine [.ref 91] I J P K n F := by
  unfold pLine at h
  have hv : ∀ v (I' : sI) (J' : sJ), pPost I J sz lm tp (fun v I' J' => (v = 0 ∨ v = 1) ∧ F v I' J') v → True := fun _ _ _ _ => trivial
  have lift : ∀ r, pPost I J sz lm tp F r → pPost I J sz lm tp (fun v I' J' => (v = 0 ∨ v = 1) ∧ F v I' J') r := by
    intro r hr
    cases r with
    | error e => exact fun I' J' a b c => ⟨Or.inl rfl, hr I' J' a b c⟩
    | ok p => exact fun I' J' a b c e => ⟨Or.inr rfl, hr I' J' a b c e⟩
  refine bX12_readLine_0 hM (M_isWord (k := 0) (by decide) hM R.2.1 R.2.2 (b01n (fun e0 => ?_) (fun e0 => ?_)))
  · rw [e0] at h
    refine M_isWord (k := 1) (by decide) hM R.2.1 R.2.2 (b01n (fun e1 => ?_) (fun e1 => ?_))
    · rw [e1] at h
      refine M_isWord (k := 2) (by decide) hM R.2.1 R.2.2 (b01n (fun e2 => ?_) (fun e2 => ?_))
      · rw [e2] at h
        refine M_isWord (k := 3) (by decide) hM R.2.1 R.2.2 (b01n (fun e3 => ?_) (fun e3 => ?_))
        · rw [e3] at h
          refine M_isWord (k := 4) (by decide) hM R.2.1 R.2.2 (b01n (fun e4 => ?_) (fun e4 => ?_))
          · rw [e4] at h
            exact M_badH (k := 1) hM R h
          · rw [e4] at h
            exact M_readMost hM R A (lift _ h)
        · rw [e3] at h
          exact M_readAngels hM R A (lift _ h)
      · rw [e2] at h
        exact M_readYear hM R A (lift _ h)
    · rw [e1] at h
      exact M_readWine hM R A w0 (lift _ h)
  · rw [e0] at h
    exact M_readScale hM R A w0.1.1 (lift _ h)
end ModHouse4
