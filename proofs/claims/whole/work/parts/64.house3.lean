/-! the reference: scale, wine, a line -/
def stS (h : Nat → Nat) (j : Nat) : Nat := if j = 0 then h 4 else if j < 63 then 0 else h (j - 48)
def scH (h : Nat → Nat) (a b : Nat) : Nat → Nat := up (up (up (up h (5 + h 0) a) (10 + h 0) b) 1 (h 1 + a)) 0 (h 0 + 1)
def upN (nm : Nat → List Nat) (s : Nat) (w : List Nat) : Nat → List Nat := fun i => if i = s then w else nm i
def pScale (nx : tokT → tokT) (H : hS) (t : tokT) : pE (hS × tokT) := if H.1 0 = 5 then fl t 4 else if isN (nx t) = false then fl (nx t) 1 else
  match fndN H.2.1 (nx t).2.2.2.2 (H.1 0) 0 with
  | some _ => fl (nx t) 3
  | none => match rdN nx (nx (nx t)) 1 4 with
    | .error e => .error e
    | .ok p => match rdN nx p.2 10 400 with
      | .error e => .error e
      | .ok q => .ok ((scH H.1 p.1 q.1, upN H.2.1 (H.1 0) (nx t).2.2.2.2, H.2.2), q.2)
def wnH (h : Nat → Nat) (k v x : Nat) : Nat → Nat := up h (15 + 40 * k + v) (h (15 + 40 * k + v) + x)
def pWine (nx : tokT → tokT) (H : hS) (t : tokT) : pE (hS × tokT) := if isN (nx t) = false then fl (nx t) 1 else
  match fndN H.2.1 (nx t).2.2.2.2 (H.1 0) 0 with
  | none => fl (nx t) 3
  | some s => match rdN nx (nx (nx t)) 0 (H.1 (5 + s) - 1) with
    | .error e => .error e
    | .ok p => match rdN nx p.2 0 (H.1 4) with
      | .error e => .error e
      | .ok q => match rdN nx q.2 1 (lck H.1 (stS H.1) (fst' H.1 s + p.1)) with
        | .error e => .error e
        | .ok r => .ok ((wnH H.1 (fst' H.1 s + p.1) q.1 r.1, H.2.1, H.2.2.1, H.2.2.2.1, H.2.2.2.2.1, true), r.2)
def pLine (nx : tokT → tokT) (H : hS) (t : tokT) : pE (hS × tokT) := if isW t 0 then pScale nx H t else if isW t 1 then pWine nx H t else if isW t 2 then pYear nx H t else if isW t 3 then pAngels nx H t else if isW t 4 then pMost nx H t else fl t 1
theorem stS_wn (h : Nat → Nat) (k v : Nat) : wn (stS h) k v = h (15 + 40 * k + v) := by
  unfold wn stS
  rw [if_neg (by omega), if_neg (by omega), show 63 + 40 * k + v - 48 = 15 + 40 * k + v by omega]
theorem nI_nm1 {k : Nat} (h : k < 2147483648) : ¬ nI k = -1 := by
  intro e
  have h2 := nI_pos (n := k) h
  rw [e] at h2
  exact h2 (by decide)
theorem fndN_lt {nm : Nat → List Nat} {w : List Nat} : ∀ {f k j : Nat}, fndN nm w f k = some j → k ≤ j ∧ j < k + f ∧ nm j = w := by
  intro f
  induction f with
  | zero => intro k j h; cases h
  | succ f ih =>
    intro k j h
    simp only [fndN] at h
    split at h
    · cases h; exact ⟨Nat.le_refl _, by omega, by assumption⟩
    · have := ih h; exact ⟨by omega, by omega, this.2.2⟩
/-- a house as far as it is read is well -/
def wH (H : hS) : Prop := wf H.1 (stS H.1) ∧ (∀ k, H.1 1 ≤ k → k < 20 → ∀ v, v < 40 → H.1 (15 + 40 * k + v) = 0) ∧ (H.2.2.2.2.2 = false → ∀ j, j < 800 → H.1 (15 + j) = 0)
theorem isN_2 {t : tokT} (h : isN t = true) : t.1 = 2 := by
  unfold isN at h
  rw [Bool.and_eq_true] at h
  exact of_decide_eq_true h.1
section ModHouse3
variable {G : gG} {d : Nat} {I I0 : sI} {J J0 : sJ} {P : sP} {K : sK} {n : Nat} {F : Int32 → sI → sJ → Prop} {FV : sI → sJ → Prop} {sz lm : Nat} {tp : Nat → Nat} {t : tokT} {H : hS}
theorem M_badG {k : Nat} (hM : shM P K) (R : rP I J sz lm tp t) (f : frH I0 I J0 J) (h : pPost I0 J0 sz lm tp F (fl t k)) : ckI G d mX12_bad [.ref 91, .int (nI k)] I J P K n (fun v I' J' => (v = 0 ∨ v = 1) ∧ F v I' J') :=
  M_bad k hM R.2.1 R.2.2 (fun I' a1 a2 a3 => ⟨Or.inl rfl, h I' J a1 a2 (frH_tr f (frH_bad a3))⟩)
theorem M_readScale (hM : shM P K) (R : rP I J sz lm tp t) (A : rH I J H) (h5 : H.1 0 ≤ 5) (h : pPost I J sz lm tp F (pScale (nxT tp sz lm) H t)) : ckI G (d + 3) mX12_readScale [.ref 91] I J P K n F := by
  obtain ⟨h1, nm, y, a, m, w⟩ := H
  obtain ⟨A1, A2, A3, A4, A5, A6⟩ := A
  change h1 0 ≤ 5 at h5
  have z0 : I 94 0 = nI (h1 0) := A1 0 (by decide)
  refine bX12_readScale_0 hM ?_
  have e5 : (5 + nI (h1 0) : Int32) = nI (5 + h1 0) := by show nI 5 + nI _ = _; rw [i_add]
  have e10 : (10 + nI (h1 0) : Int32) = nI (10 + h1 0) := by show nI 10 + nI _ = _; rw [i_add]
  rw [z0, e5, e10]
  refine ⟨fun q => ?_, fun q => ?_⟩
  · have e : h1 0 = 5 := (nI_eq (by omega) (by decide)).mp q
    simp only [pScale, e, if_true] at h
    exact M_badH (k := 4) hM R h
  · have e : ¬ h1 0 = 5 := fun z => q (by rw [z]; rfl)
    simp only [pScale, if_neg e] at h
    refine M_next' hM R (fun I2 J2 R2 f => ?_)
    have fh : frH I I2 J J2 := frH_go f
    refine M_isName hM R2.2.1 R2.2.2 (b01n (fun en => ?_) (fun en => ?_))
    · rw [if_pos en] at h
      exact M_badG (k := 1) hM R2 fh h
    · rw [if_neg (by rw [en]; decide)] at h
      have k2 := isN_2 en
      have ow := R2.2.2.2.2.2.1 k2
      have ej : J2 91 12 = lN (vB 27 (nxT tp sz lm t).2.2.2.2 0) := R2.2.1.2.2.2.2.2 k2
      rw [ej]
      refine M_findIn (a := 99) (len := 5) (nm := nm) (shM_K99 hM) h5 (by decide) ow (fun s hs => ?_) ?_
      · rw [f.2 99 s (by omega)]; exact A2 s hs
      · cases hf : fndN nm (nxT tp sz lm t).2.2.2.2 (h1 0) 0 with
        | some k =>
          rw [hf] at h
          exact br_f (nI_nm1 (by have := (fndN_lt hf).2.1; omega)) (M_badG (k := 3) hM R2 fh h)
        | none =>
          rw [hf] at h
          refine br_t rfl ⟨nI_inN (by omega) (by decide), ?_⟩
          rw [nI_ck (by omega), ej]
          have R3 : rP I2 (u2 J2 99 (h1 0) (lN (vB 27 (nxT tp sz lm t).2.2.2.2 0))) sz lm tp (nxT tp sz lm t) := rP_of R2 (fun _ _ _ => rfl) (fun _ => rfl) (u2_a _ _ _ _ (by decide))
          have fh3 : frH I I2 J (u2 J2 99 (h1 0) (lN (vB 27 (nxT tp sz lm t).2.2.2.2 0))) := frH_tr fh ⟨fun _ _ _ _ => rfl, fun c k hc _ => u2_a _ _ _ _ hc⟩
          refine M_next' hM R3 (fun I4 J4 R4 f4 => ?_)
          have fh4 := frH_tr fh3 (frH_go f4)
          refine M_putN (a := 1) (b := 4) (c := 5 + h1 0) (by decide) (by decide) (by omega) hM R4 (fun e1 I5 J5 R5 g1 g2 g3 g4 => ?_) (fun e1 I5 a1 a2 a3 => ?_)
          · refine br_f (by decide) ?_
            rw [rdN_ok e1] at h
            have fh5 := frH_tr fh4 (I2 := I5) (J2 := J5) ⟨fun c k hc h2 => g3 c k hc (by omega), fun c k _ h2 => g4 c k h2⟩
            refine M_putN (a := 10) (b := 400) (c := 10 + h1 0) (by decide) (by decide) (by omega) hM R5 (fun e2 I6 J6 R6 k1 k2 k3 k4 => ?_) (fun e2 I6 a1 a2 a3 => ?_)
            · refine br_f (by decide) ⟨nI_inN (by omega) (by decide), ?_⟩
              have h' := h
              simp only [rdN_ok e2] at h'
              have b0 : ∀ k, k < 815 → k ≠ 10 + h1 0 → k ≠ 5 + h1 0 → I6 94 k = nI (h1 k) := fun k hk n1 n2 => by
                rw [k2 k n1, g2 k n2, f4.1 94 k (by omega), f.1 94 k (by omega)]; exact A1 k hk
              have b5 : I6 94 (5 + h1 0) = nI (nxT tp sz lm (nxT tp sz lm t)).2.2.2.1 := by rw [k2 _ (by omega)]; exact g1
              have fh6 := frH_tr fh5 (I2 := I6) (J2 := J6) ⟨fun c k hc h2 => k3 c k hc (by omega), fun c k _ h2 => k4 c k h2⟩
              rw [nI_ck (by omega), u2_k _ _ _ _ (by omega), b5, b0 0 (by decide) (by omega) (by omega), b0 1 (by decide) (by omega) (by omega), nI_1, i_add]
              have ofl : ∀ k, 23 ≤ k → k ≤ 26 → I6 91 k = I 91 k := fun k x1 x2 => by
                rw [k3 91 k (by decide) (by omega), g3 91 k (by decide) (by omega), f4.1 91 k (by omega), f.1 91 k (by omega)]
              have o2 : ∀ (v1 v2 : Int32) (k : Nat), (u2 (u2 I6 94 0 v1) 94 1 v2) 91 k = I6 91 k := fun v1 v2 k => by rw [u2_a _ _ _ _ (by decide), u2_a _ _ _ _ (by decide)]
              refine h' _ J6 ⟨fun k hk => ?_, fun s hs => ?_, ?_, ?_, ?_, ?_⟩ (rP_of R6 (fun k _ _ => o2 _ _ k) (fun j => by rw [u2_a _ _ _ _ (by decide), u2_a _ _ _ _ (by decide)]) rfl) ?_ (frH_tr fh6 ⟨fun c k hc _ => by rw [u2_a _ _ _ _ hc, u2_a _ _ _ _ hc], fun _ _ _ _ => rfl⟩)
              · show _ = nI (scH h1 _ _ k)
                unfold scH
                by_cases c0 : k = 0
                · subst c0; rw [up_s, u2_k _ _ _ _ (by decide), u2_s]
                · rw [up_n _ _ c0]
                  by_cases c1 : k = 1
                  · subst c1; rw [up_s, u2_s]
                  · rw [up_n _ _ c1, u2_k _ _ _ _ c1, u2_k _ _ _ _ c0]
                    by_cases c2 : k = 10 + h1 0
                    · subst c2; rw [up_s]; exact k1
                    · rw [up_n _ _ c2]
                      by_cases c3 : k = 5 + h1 0
                      · subst c3; rw [up_s]; exact b5
                      · rw [up_n _ _ c3]; exact b0 k hk c2 c3
              · have hs2 : s < h1 0 + 1 := by
                  have e : scH h1 (nxT tp sz lm (nxT tp sz lm t)).2.2.2.1 (nxT tp sz lm (nxT tp sz lm (nxT tp sz lm t))).2.2.2.1 0 = h1 0 + 1 := up_s _ _ _
                  rw [← e]; exact hs
                show J6 99 s = lN (vB 27 (upN nm (h1 0) _ s) 0) ∧ okW (upN nm (h1 0) _ s)
                rw [k4 99 s (by omega), g4 99 s (by omega), f4.2 99 s (by omega)]
                unfold upN
                by_cases c : s = h1 0
                · rw [if_pos c]; subst c; rw [u2_s]; exact ⟨rfl, ow⟩
                · rw [if_neg c, u2_k _ _ _ _ c, f.2 99 s (by omega)]; exact A2 s (by show s < h1 0; omega)
              · rw [o2, ofl 23 (by decide) (by decide)]; exact A3
              · rw [o2, ofl 24 (by decide) (by decide)]; exact A4
              · rw [o2, ofl 25 (by decide) (by decide)]; exact A5
              · rw [o2, ofl 26 (by decide) (by decide)]; exact A6
              · rw [o2, k3 91 10 (by decide) (by omega), g3 91 10 (by decide) (by omega), f4.1 91 10 (by omega), f.1 91 10 (by omega)]
            · have h' := h
              simp only [rdN_bad e2] at h'
              exact br_t rfl (h' I6 J5 a1 a2 (frH_tr fh5 (frH_bad a3)))
          · rw [rdN_bad e1] at h
            exact br_t rfl (h I5 J4 a1 a2 (frH_tr fh4 (frH_bad a3)))
end ModHouse3
