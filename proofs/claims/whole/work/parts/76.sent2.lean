/-! the reference: a sentence is read -/
def rG (I : sI) (s : sgT) (nd : Nat → ndT) : Prop := I 91 50 = nI s.1.length ∧ I 91 51 = nI s.2 ∧ s.2 ≤ 20 ∧ wfN nd s.1.length ∧ ∀ i, i < s.1.length → I 115 (4 * i) = nI (nd i).1 ∧ I 115 (4 * i + 1) = nI (nd i).2.1 ∧ I 115 (4 * i + 2) = nI (nd i).2.2.1 ∧ I 115 (4 * i + 3) = nI (nd i).2.2.2
def frZ (I I' : sI) (J J' : sJ) : Prop := (∀ c k, c ≠ 115 → ¬ (c = 91 ∧ ((5 ≤ k ∧ k ≤ 11) ∨ k = 13 ∨ (50 ≤ k ∧ k ≤ 53))) → I' c k = I c k) ∧ ∀ c k, ¬ (c = 91 ∧ k = 12) → J' c k = J c k
theorem frZ_rf (I : sI) (J : sJ) : frZ I I J J := ⟨fun _ _ _ _ => rfl, fun _ _ _ => rfl⟩
theorem frZ_tr {I I' I2 : sI} {J J' J2 : sJ} (h : frZ I I' J J') (h2 : frZ I' I2 J' J2) : frZ I I2 J J2 := ⟨fun c k a b => (h2.1 c k a b).trans (h.1 c k a b), fun c k a => (h2.2 c k a).trans (h.2 c k a)⟩
theorem frZ_Q {I I' : sI} {J J' : sJ} (h : frQ I I' J J') : frZ I I' J J' := ⟨fun c k _ a => h.1 c k (by omega), h.2⟩
theorem frZ_go {I I' : sI} {J J' : sJ} (h : frGo I I' J J') : frZ I I' J J' := frZ_Q (frQ_go h)
theorem rG_of {I I' : sI} {s : sgT} {nd : Nat → ndT} (g : rG I s nd) (h50 : I' 91 50 = I 91 50) (h51 : I' 91 51 = I 91 51) (h : ∀ k, I' 115 k = I 115 k) : rG I' s nd := ⟨h50.trans g.1, h51.trans g.2.1, g.2.2.1, g.2.2.2.1, fun i hi => by
  have := g.2.2.2.2 i hi
  simp only [h]
  exact this⟩
theorem rG_Q {I I' : sI} {J J' : sJ} {s : sgT} {nd : Nat → ndT} (g : rG I s nd) (f : frQ I I' J J') : rG I' s nd := rG_of g (f.1 91 50 (by omega)) (f.1 91 51 (by omega)) (fun k => f.1 115 k (by omega))
section ModSent
variable {G : gG} {d : Nat} {I I0 : sI} {J J0 : sJ} {P : sP} {K : sK} {n : Nat} {F : Int32 → sI → sJ → Prop} {FV : sI → sJ → Prop} {sz lm : Nat} {tp : Nat → Nat} {t : tokT} {hd : Nat → Nat} {nm : Nat → List Nat} {s s0 : sgT} {nd nd0 : Nat → ndT}
theorem nI_m4 (a : Nat) : 4 * nI a = nI (4 * a) := i_mul 4 a
theorem wfN_up {m : Nat} {q : ndT} (w : wfN nd m) (hq : ((q.1 = 1 ∧ q.2.1 < m) ∨ ((q.1 = 2 ∨ q.1 = 3) ∧ q.2.1 < m ∧ q.2.2.1 < m) ∨ (63 ≤ q.1 ∧ q.1 ≤ 71 ∧ (q.1 = 67 → q.2.1 ≤ 39))) ∧ q.2.1 ≤ 60 ∧ q.2.2.1 ≤ 999 ∧ q.2.2.2 ≤ 999) : wfN (upQ nd m q) (m + 1) := by
  intro i hi
  by_cases c : i = m
  · have e : upQ nd m q i = q := if_pos c
    rw [e, c]; exact hq
  · have e : upQ nd m q i = nd i := if_neg c
    rw [e]; exact w i (by omega)
theorem M_saysOne {q : ndT} {i : itT} (hM : shM P K) (g : rG I s nd) (hl : s.1.length < 60) (hq : ((q.1 = 1 ∧ q.2.1 < s.1.length) ∨ ((q.1 = 2 ∨ q.1 = 3) ∧ q.2.1 < s.1.length ∧ q.2.2.1 < s.1.length) ∨ (63 ≤ q.1 ∧ q.1 ≤ 71 ∧ (q.1 = 67 → q.2.1 ≤ 39))) ∧ q.2.1 ≤ 60 ∧ q.2.2.1 ≤ 999 ∧ q.2.2.2 ≤ 999) (h : ∀ I', rG I' (s.1 ++ [i], s.2) (upQ nd s.1.length q) → (∀ c k, c ≠ 115 → ¬ (c = 91 ∧ k = 50) → I' c k = I c k) → F (nI s.1.length) I' J) : ckI G d mX12_saysOne [.ref 91, .int (nI q.1), .int (nI q.2.1), .int (nI q.2.2.1), .int (nI q.2.2.2)] I J P K n F := by
  refine bX12_saysOne_0 hM _ _ _ _ ?_
  rw [g.1]
  simp only [nI_m4, nI_1, nI_p2, nI_p3, nI_pred, nI_ck (show 4 * s.1.length < 2147483648 by omega), nI_ck (show 4 * s.1.length + 1 < 2147483648 by omega), nI_ck (show 4 * s.1.length + 2 < 2147483648 by omega), nI_ck (show 4 * s.1.length + 3 < 2147483648 by omega)]
  refine ⟨nI_inN (by omega) (by decide), nI_inN (by omega) (by decide), nI_inN (by omega) (by decide), nI_inN (by omega) (by decide), ?_⟩
  refine h _ ⟨?_, ?_, g.2.2.1, ?_, fun j hj => ?_⟩ (fun c k h1 h2 => ?_)
  · rw [u2_s]; simp
  · rw [u2_k _ _ _ _ (by decide), u2_a _ _ _ _ (by decide), u2_a _ _ _ _ (by decide), u2_a _ _ _ _ (by decide), u2_a _ _ _ _ (by decide)]; exact g.2.1
  · have : (s.1 ++ [i]).length = s.1.length + 1 := by simp
    show wfN _ (s.1 ++ [i]).length
    rw [this]; exact wfN_up g.2.2.2.1 hq
  · have hj' : j < s.1.length + 1 := by simpa using hj
    by_cases c : j = s.1.length
    · subst c
      have e : upQ nd s.1.length q s.1.length = q := if_pos rfl
      rw [e]
      refine ⟨?_, ?_, ?_, ?_⟩
      · rw [u2_a _ _ _ _ (by decide), u2_k _ _ _ _ (by omega), u2_k _ _ _ _ (by omega), u2_k _ _ _ _ (by omega), u2_s]
      · rw [u2_a _ _ _ _ (by decide), u2_k _ _ _ _ (by omega), u2_k _ _ _ _ (by omega), u2_s]
      · rw [u2_a _ _ _ _ (by decide), u2_k _ _ _ _ (by omega), u2_s]
      · rw [u2_a _ _ _ _ (by decide), u2_s]
    · have e : upQ nd s.1.length q j = nd j := if_neg c
      rw [e]
      have o : ∀ z, z < 4 → (u2 (u2 (u2 (u2 (u2 I 115 (4 * s.1.length) (nI q.1)) 115 (4 * s.1.length + 1) (nI q.2.1)) 115 (4 * s.1.length + 2) (nI q.2.2.1)) 115 (4 * s.1.length + 3) (nI q.2.2.2)) 91 50 (nI (s.1.length + 1))) 115 (4 * j + z) = I 115 (4 * j + z) := fun z hz => by
        rw [u2_a _ _ _ _ (by decide), u2_k _ _ _ _ (by omega), u2_k _ _ _ _ (by omega), u2_k _ _ _ _ (by omega), u2_k _ _ _ _ (by omega)]
      have o0 := o 0 (by decide)
      simp only [Nat.add_zero] at o0
      rw [o0, o 1 (by decide), o 2 (by decide), o 3 (by decide)]
      exact g.2.2.2.2 j (by omega)
  · have e : ∀ (X : sI) v, u2 X 91 50 v c k = X c k := fun X v => by simp only [u2]; rw [if_neg h2]
    rw [e, u2_a _ _ _ _ h1, u2_a _ _ _ _ h1, u2_a _ _ _ _ h1, u2_a _ _ _ _ h1]
/-- one thing is said -/
def sPost (I0 : sI) (J0 : sJ) (sz lm : Nat) (tp : Nat → Nat) (s0 : sgT) (nd0 : Nat → ndT) (F : Int32 → sI → sJ → Prop) (r : pE (sgT × tokT)) : Prop := match r with
  | .error e => ∀ I' J', I' 91 10 = nI e.1 → I' 91 11 = nI e.2 → frZ I0 I' J0 J' → F 0 I' J'
  | .ok p => ∀ I' J' nd' top seg, rP I' J' sz lm tp p.2 → rG I' p.1 nd' → p.1.1 = s0.1 ++ seg → (∀ i, i < s0.1.length → nd' i = nd0 i) → I' 91 53 = nI top → top < p.1.1.length → (∀ pv, oneV pv seg (hv pv nd' top)) → I' 91 52 = I0 91 52 → I' 91 10 = I0 91 10 → frZ I0 I' J0 J' → F 1 I' J'
theorem sPost_or {r : pE (sgT × tokT)} (h : sPost I0 J0 sz lm tp s0 nd0 F r) : sPost I0 J0 sz lm tp s0 nd0 (fun v I' J' => (v = 0 ∨ v = 1) ∧ F v I' J') r := by
  cases r with
  | error e => exact fun I' J' a b c => ⟨Or.inl rfl, h I' J' a b c⟩
  | ok p => exact fun I' J' nd' top seg a1 a2 a3 a4 a5 a6 a7 a8 a9 a10 => ⟨Or.inr rfl, h I' J' nd' top seg a1 a2 a3 a4 a5 a6 a7 a8 a9 a10⟩
/-- the method M says what sd reads, at this depth -/
def SD (G : gG) (D : Nat) (M : gM) (P : sP) (K : sK) (n sz lm : Nat) (tp : Nat → Nat) (hd : Nat → Nat) (nm : Nat → List Nat) (wi : Nat) (sd : sgT → tokT → pE (sgT × tokT)) : Prop := ∀ (I : sI) (J : sJ) (s : sgT) (nd : Nat → ndT) (t : tokT) (F : Int32 → sI → sJ → Prop), rP I J sz lm tp t → rG I s nd → s.1.length ≤ 2 * s.2 → I 91 52 = nI wi → I 93 0 = nI (hd 0) → rNm J hd nm → sPost I J sz lm tp s nd F (sd s t) → ckI G D M [.ref 91] I J P K n F
theorem M_readAnd14 {D wi : Nat} {sd : sgT → tokT → pE (sgT × tokT)} (hM : shM P K) (o : okSd sd) (S : SD G (D + 2) mX12_readSaid P K n sz lm tp hd nm wi sd) : ∀ (l a : Nat) (s : sgT) (nd : Nat → ndT) (t : tokT) (seg : List itT) (I : sI) (J : sJ), 20 < l + s.2 → rP I J sz lm tp t → rG I s nd → s.1 = s0.1 ++ seg → s.1.length + 1 ≤ 2 * s.2 → (∀ i, i < s0.1.length → nd i = nd0 i) → a < s.1.length → (∀ pv, oneV pv seg (hv pv nd a)) → I0 91 52 = nI wi → I 91 52 = I0 91 52 → I 91 10 = I0 91 10 → I0 93 0 = nI (hd 0) → rNm J0 hd nm → frZ I0 I J0 J → sPost I0 J0 sz lm tp s0 nd0 F (if isW t 11 then pLp (nxT tp sz lm) 11 sd l true s (nxT tp sz lm t) else .ok (s, t)) → Ok G (D + 3) mX12_readAnd 14 [some (.ref 91), some (.int (nI a))] [] I J P K n (kI P K n F) := by
  intro l
  induction l with
  | zero => intro a s nd t seg I J hl R g; have := g.2.2.1; omega
  | succ l ih =>
    intro a s nd t seg I J hl R g es hlen en ha ho hw h52 h10 e0 N f h
    refine bX12_readAnd_14 hM _ (M_isWord (k := 11) (by decide) hM R.2.1 R.2.2 (b01n (fun e1 => ?_) (fun e1 => ?_)))
    · rw [e1] at h
      have o5 : ∀ c k, ¬ (c = 91 ∧ k = 53) → u2 I 91 53 (nI a) c k = I c k := fun c k hk => by simp only [u2]; rw [if_neg hk]
      refine h _ J nd a seg (rP_of R (fun k _ _ => o5 91 k (by omega)) (fun j => o5 92 j (by omega)) rfl) (rG_of g (o5 91 50 (by omega)) (o5 91 51 (by omega)) (fun k => o5 115 k (by omega))) es en (u2_s _ _ _ _) ha ho ((o5 91 52 (by omega)).trans h52) ((o5 91 10 (by omega)).trans h10) (frZ_tr f ⟨fun c k h1 h2 => o5 c k (by omega), fun _ _ _ => rfl⟩)
    · rw [if_pos e1] at h
      simp only [pLp] at h
      refine M_next' hM R (fun I2 J2 R2 f2 => ?_)
      have fz := frZ_tr f (frZ_go f2)
      refine S I2 J2 s nd _ _ R2 (rG_Q g (frQ_go f2)) (by omega) ((f2.1 91 52 (by omega)).trans (h52.trans hw)) ((fz.1 93 0 (by decide) (by omega)).trans e0) (rNm_of N (fun k => fz.2 98 k (by omega))) ?_
      cases hp : sd s (nxT tp sz lm t) with
      | error er => rw [hp] at h; exact fun I' J' a1 a2 a3 => br_t rfl (h I' J' a1 a2 (frZ_tr fz a3))
      | ok p =>
        simp only [hp] at h
        intro I3 J3 nd3 top sg R3 g3 es3 en3 h53 htop ho3 k52 k10 f3
        refine br_f (by decide) ?_
        rw [h53]
        obtain ⟨sg', q1, q2, q3, q4⟩ := o s _ p g.2.2.1 hp
        have hpl : p.1.1.length = s.1.length + sg.length := by rw [es3, List.length_append]
        have hsl : sg.length + 1 ≤ 2 * (p.1.2 - s.2) := by
          have : sg.length = sg'.length := by have := congrArg List.length (es3.symm.trans q1); simpa using this
          omega
        have wf0 : wfN nd s.1.length := g.2.2.2.1
        have hva : ∀ pv, hv pv nd3 a = hv pv nd a := fun pv => hvN_congr wf0 en3 _ _ _ (by omega) (by omega) ha
        refine M_saysOne (q := (2, a, top, 0)) (i := (11, 0, 0)) hM g3 (by omega) ⟨Or.inr (Or.inl ⟨Or.inl rfl, by show a < _; omega, htop⟩), by show a ≤ 60; omega, by show top ≤ 999; omega, Nat.zero_le _⟩ (fun I4 g4 f4 => ?_)
        have fz4 : frZ I0 I4 J0 J3 := frZ_tr (frZ_tr fz f3) ⟨fun c k h1 h2 => f4 c k h1 (by omega), fun _ _ _ => rfl⟩
        have hsA : sAd true 11 p.1 = (p.1.1 ++ [(11, 0, 0)], p.1.2) := rfl
        rw [hsA] at h
        have w3 := g3.2.2.2.1
        refine ih p.1.1.length (p.1.1 ++ [(11, 0, 0)], p.1.2) _ p.2 (seg ++ sg ++ [(11, 0, 0)]) I4 J3 (by show 20 < l + p.1.2; omega) (rP_of R3 (fun k _ _ => f4 91 k (by decide) (by omega)) (fun j => f4 92 j (by decide) (by omega)) rfl) g4 ?_ ?_ (fun i hi => ?_) ?_ (fun pv x => ?_) hw ?_ ?_ e0 N fz4 h
        · show p.1.1 ++ [(11, 0, 0)] = _
          rw [es3, es]; simp
        · show (p.1.1 ++ [(11, 0, 0)]).length + 1 ≤ 2 * p.1.2
          rw [List.length_append, hpl]; show s.1.length + sg.length + 1 + 1 ≤ _; omega
        · have hl0 : s0.1.length ≤ s.1.length := by rw [es, List.length_append]; omega
          show upQ nd3 p.1.1.length _ i = nd0 i
          unfold upQ
          rw [if_neg (by omega), en3 i (by omega)]; exact en i hi
        · show _ < (p.1.1 ++ [(11, 0, 0)]).length
          rw [List.length_append]; show p.1.1.length < p.1.1.length + 1; omega
        · rw [ev_app, ev_app, ho pv, ho3 pv, ev_and]
          have e1 : hv pv (upQ nd3 p.1.1.length (2, a, top, 0)) p.1.1.length = (hv pv (upQ nd3 p.1.1.length (2, a, top, 0)) a && hv pv (upQ nd3 p.1.1.length (2, a, top, 0)) top) := by
            have hu : upQ nd3 p.1.1.length (2, a, top, 0) p.1.1.length = (2, a, top, 0) := if_pos rfl
            have w4 : wfN (upQ nd3 p.1.1.length (2, a, top, 0)) p.1.1.length := fun i hi => by
              have : upQ nd3 p.1.1.length (2, a, top, 0) i = nd3 i := if_neg (by omega)
              rw [this]; exact w3 i hi
            show hvN pv _ (p.1.1.length + 1) p.1.1.length = _
            simp only [hvN, hu]
            rw [if_neg (by decide), if_pos trivial]
            rw [hvN_congr (nd' := upQ nd3 p.1.1.length (2, a, top, 0)) w4 (fun _ _ => rfl) (a + 1) _ a (by omega) (by omega) (by omega), hvN_congr (nd' := upQ nd3 p.1.1.length (2, a, top, 0)) w4 (fun _ _ => rfl) (top + 1) _ top (by omega) (by omega) (by omega)]
            rfl
          rw [e1, hv_ext w3 _ (by omega), hv_ext w3 _ htop, hva]
        · rw [f4 91 52 (by decide) (by omega), k52, f2.1 91 52 (by omega)]; exact h52
        · rw [f4 91 10 (by decide) (by omega), k10, f2.1 91 10 (by omega)]; exact h10
theorem M_readAnd {D wi : Nat} {sd : sgT → tokT → pE (sgT × tokT)} (hM : shM P K) (o : okSd sd) (S : SD G (D + 2) mX12_readSaid P K n sz lm tp hd nm wi sd) : SD G (D + 3) mX12_readAnd P K n sz lm tp hd nm wi (pLp (nxT tp sz lm) 11 sd 21 false) := by
  intro I J s nd t F R g hlen hw e0 N h
  refine bX12_readAnd_0 hM (S I J s nd t _ R g hlen hw e0 N ?_)
  simp only [pLp] at h
  cases hp : sd s t with
  | error er => rw [hp] at h; exact fun I' J' a1 a2 a3 => br_t rfl (h I' J' a1 a2 a3)
  | ok p =>
    simp only [hp] at h
    intro I3 J3 nd3 top sg R3 g3 es3 en3 h53 htop ho3 k52 k10 f3
    refine br_f (by decide) ?_
    rw [h53]
    obtain ⟨sg', q1, q2, q3, q4⟩ := o s _ p g.2.2.1 hp
    have hpl : p.1.1.length = s.1.length + sg.length := by rw [es3, List.length_append]
    have hsl : sg.length + 1 ≤ 2 * (p.1.2 - s.2) := by
      have : sg.length = sg'.length := by have := congrArg List.length (es3.symm.trans q1); simpa using this
      omega
    exact M_readAnd14 (I0 := I) (J0 := J) (s0 := s) (nd0 := nd) hM o S 20 top p.1 nd3 p.2 sg I3 J3 (by omega) R3 g3 es3 (by omega) en3 htop ho3 hw k52 k10 e0 N f3 h
theorem M_readOr14 {D wi : Nat} {sd : sgT → tokT → pE (sgT × tokT)} (hM : shM P K) (o : okSd sd) (S : SD G (D + 2) mX12_readAnd P K n sz lm tp hd nm wi sd) : ∀ (l a : Nat) (s : sgT) (nd : Nat → ndT) (t : tokT) (seg : List itT) (I : sI) (J : sJ), 20 < l + s.2 → rP I J sz lm tp t → rG I s nd → s.1 = s0.1 ++ seg → s.1.length + 1 ≤ 2 * s.2 → (∀ i, i < s0.1.length → nd i = nd0 i) → a < s.1.length → (∀ pv, oneV pv seg (hv pv nd a)) → I0 91 52 = nI wi → I 91 52 = I0 91 52 → I 91 10 = I0 91 10 → I0 93 0 = nI (hd 0) → rNm J0 hd nm → frZ I0 I J0 J → sPost I0 J0 sz lm tp s0 nd0 F (if isW t 10 then pLp (nxT tp sz lm) 10 sd l true s (nxT tp sz lm t) else .ok (s, t)) → Ok G (D + 3) mX12_readOr 14 [some (.ref 91), some (.int (nI a))] [] I J P K n (kI P K n F) := by
  intro l
  induction l with
  | zero => intro a s nd t seg I J hl R g; have := g.2.2.1; omega
  | succ l ih =>
    intro a s nd t seg I J hl R g es hlen en ha ho hw h52 h10 e0 N f h
    refine bX12_readOr_14 hM _ (M_isWord (k := 10) (by decide) hM R.2.1 R.2.2 (b01n (fun e1 => ?_) (fun e1 => ?_)))
    · rw [e1] at h
      have o5 : ∀ c k, ¬ (c = 91 ∧ k = 53) → u2 I 91 53 (nI a) c k = I c k := fun c k hk => by simp only [u2]; rw [if_neg hk]
      refine h _ J nd a seg (rP_of R (fun k _ _ => o5 91 k (by omega)) (fun j => o5 92 j (by omega)) rfl) (rG_of g (o5 91 50 (by omega)) (o5 91 51 (by omega)) (fun k => o5 115 k (by omega))) es en (u2_s _ _ _ _) ha ho ((o5 91 52 (by omega)).trans h52) ((o5 91 10 (by omega)).trans h10) (frZ_tr f ⟨fun c k h1 h2 => o5 c k (by omega), fun _ _ _ => rfl⟩)
    · rw [if_pos e1] at h
      simp only [pLp] at h
      refine M_next' hM R (fun I2 J2 R2 f2 => ?_)
      have fz := frZ_tr f (frZ_go f2)
      refine S I2 J2 s nd _ _ R2 (rG_Q g (frQ_go f2)) (by omega) ((f2.1 91 52 (by omega)).trans (h52.trans hw)) ((fz.1 93 0 (by decide) (by omega)).trans e0) (rNm_of N (fun k => fz.2 98 k (by omega))) ?_
      cases hp : sd s (nxT tp sz lm t) with
      | error er => rw [hp] at h; exact fun I' J' a1 a2 a3 => br_t rfl (h I' J' a1 a2 (frZ_tr fz a3))
      | ok p =>
        simp only [hp] at h
        intro I3 J3 nd3 top sg R3 g3 es3 en3 h53 htop ho3 k52 k10 f3
        refine br_f (by decide) ?_
        rw [h53]
        obtain ⟨sg', q1, q2, q3, q4⟩ := o s _ p g.2.2.1 hp
        have hpl : p.1.1.length = s.1.length + sg.length := by rw [es3, List.length_append]
        have hsl : sg.length + 1 ≤ 2 * (p.1.2 - s.2) := by
          have : sg.length = sg'.length := by have := congrArg List.length (es3.symm.trans q1); simpa using this
          omega
        have wf0 : wfN nd s.1.length := g.2.2.2.1
        have hva : ∀ pv, hv pv nd3 a = hv pv nd a := fun pv => hvN_congr wf0 en3 _ _ _ (by omega) (by omega) ha
        refine M_saysOne (q := (3, a, top, 0)) (i := (10, 0, 0)) hM g3 (by omega) ⟨Or.inr (Or.inl ⟨Or.inr rfl, by show a < _; omega, htop⟩), by show a ≤ 60; omega, by show top ≤ 999; omega, Nat.zero_le _⟩ (fun I4 g4 f4 => ?_)
        have fz4 : frZ I0 I4 J0 J3 := frZ_tr (frZ_tr fz f3) ⟨fun c k h1 h2 => f4 c k h1 (by omega), fun _ _ _ => rfl⟩
        have hsA : sAd true 10 p.1 = (p.1.1 ++ [(10, 0, 0)], p.1.2) := rfl
        rw [hsA] at h
        have w3 := g3.2.2.2.1
        refine ih p.1.1.length (p.1.1 ++ [(10, 0, 0)], p.1.2) _ p.2 (seg ++ sg ++ [(10, 0, 0)]) I4 J3 (by show 20 < l + p.1.2; omega) (rP_of R3 (fun k _ _ => f4 91 k (by decide) (by omega)) (fun j => f4 92 j (by decide) (by omega)) rfl) g4 ?_ ?_ (fun i hi => ?_) ?_ (fun pv x => ?_) hw ?_ ?_ e0 N fz4 h
        · show p.1.1 ++ [(10, 0, 0)] = _
          rw [es3, es]; simp
        · show (p.1.1 ++ [(10, 0, 0)]).length + 1 ≤ 2 * p.1.2
          rw [List.length_append, hpl]; show s.1.length + sg.length + 1 + 1 ≤ _; omega
        · have hl0 : s0.1.length ≤ s.1.length := by rw [es, List.length_append]; omega
          show upQ nd3 p.1.1.length _ i = nd0 i
          unfold upQ
          rw [if_neg (by omega), en3 i (by omega)]; exact en i hi
        · show _ < (p.1.1 ++ [(10, 0, 0)]).length
          rw [List.length_append]; show p.1.1.length < p.1.1.length + 1; omega
        · rw [ev_app, ev_app, ho pv, ho3 pv, ev_or]
          have e1 : hv pv (upQ nd3 p.1.1.length (3, a, top, 0)) p.1.1.length = (hv pv (upQ nd3 p.1.1.length (3, a, top, 0)) a || hv pv (upQ nd3 p.1.1.length (3, a, top, 0)) top) := by
            have hu : upQ nd3 p.1.1.length (3, a, top, 0) p.1.1.length = (3, a, top, 0) := if_pos rfl
            have w4 : wfN (upQ nd3 p.1.1.length (3, a, top, 0)) p.1.1.length := fun i hi => by
              have : upQ nd3 p.1.1.length (3, a, top, 0) i = nd3 i := if_neg (by omega)
              rw [this]; exact w3 i hi
            show hvN pv _ (p.1.1.length + 1) p.1.1.length = _
            simp only [hvN, hu]
            rw [if_neg (by decide), if_neg (by decide), if_pos trivial]
            rw [hvN_congr (nd' := upQ nd3 p.1.1.length (3, a, top, 0)) w4 (fun _ _ => rfl) (a + 1) _ a (by omega) (by omega) (by omega), hvN_congr (nd' := upQ nd3 p.1.1.length (3, a, top, 0)) w4 (fun _ _ => rfl) (top + 1) _ top (by omega) (by omega) (by omega)]
            rfl
          rw [e1, hv_ext w3 _ (by omega), hv_ext w3 _ htop, hva]
        · rw [f4 91 52 (by decide) (by omega), k52, f2.1 91 52 (by omega)]; exact h52
        · rw [f4 91 10 (by decide) (by omega), k10, f2.1 91 10 (by omega)]; exact h10
theorem M_readOr {D wi : Nat} {sd : sgT → tokT → pE (sgT × tokT)} (hM : shM P K) (o : okSd sd) (S : SD G (D + 2) mX12_readAnd P K n sz lm tp hd nm wi sd) : SD G (D + 3) mX12_readOr P K n sz lm tp hd nm wi (pLp (nxT tp sz lm) 10 sd 21 false) := by
  intro I J s nd t F R g hlen hw e0 N h
  refine bX12_readOr_0 hM (S I J s nd t _ R g hlen hw e0 N ?_)
  simp only [pLp] at h
  cases hp : sd s t with
  | error er => rw [hp] at h; exact fun I' J' a1 a2 a3 => br_t rfl (h I' J' a1 a2 a3)
  | ok p =>
    simp only [hp] at h
    intro I3 J3 nd3 top sg R3 g3 es3 en3 h53 htop ho3 k52 k10 f3
    refine br_f (by decide) ?_
    rw [h53]
    obtain ⟨sg', q1, q2, q3, q4⟩ := o s _ p g.2.2.1 hp
    have hpl : p.1.1.length = s.1.length + sg.length := by rw [es3, List.length_append]
    have hsl : sg.length + 1 ≤ 2 * (p.1.2 - s.2) := by
      have : sg.length = sg'.length := by have := congrArg List.length (es3.symm.trans q1); simpa using this
      omega
    exact M_readOr14 (I0 := I) (J0 := J) (s0 := s) (nd0 := nd) hM o S 20 top p.1 nd3 p.2 sg I3 J3 (by omega) R3 g3 es3 (by omega) en3 htop ho3 hw k52 k10 e0 N f3 h
end ModSent
