section ModSent3
variable {G : gG} {d : Nat} {I I0 : sI} {J J0 : sJ} {P : sP} {K : sK} {n : Nat} {F : Int32 → sI → sJ → Prop} {FV : sI → sJ → Prop} {sz lm : Nat} {tp : Nat → Nat} {t : tokT} {hd : Nat → Nat} {nm : Nat → List Nat} {s s0 : sgT} {nd nd0 : Nat → ndT}
/-- a node is made of the last things, or of none -/
theorem M_node {q : ndT} {i : itT} {seg : List itT} {v : (itT → Bool) → Bool} (hM : shM P K) (R : rP I J sz lm tp t) (g : rG I s nd) (hl : s.1.length < 60) (hq : ((q.1 = 1 ∧ q.2.1 < s.1.length) ∨ ((q.1 = 2 ∨ q.1 = 3) ∧ q.2.1 < s.1.length ∧ q.2.2.1 < s.1.length) ∨ (63 ≤ q.1 ∧ q.1 ≤ 71 ∧ (q.1 = 67 → q.2.1 ≤ 39))) ∧ q.2.1 ≤ 60 ∧ q.2.2.1 ≤ 999 ∧ q.2.2.2 ≤ 999) (es : s.1 ++ [i] = s0.1 ++ seg) (hs0 : s0.1.length ≤ s.1.length) (en : ∀ k, k < s0.1.length → nd k = nd0 k) (hv1 : ∀ pv, hv pv (upQ nd s.1.length q) s.1.length = v pv) (hv2 : ∀ pv, oneV pv seg (v pv)) (f : frZ I0 I J0 J) (h52 : I 91 52 = I0 91 52) (h10 : I 91 10 = I0 91 10) (h : sPost I0 J0 sz lm tp s0 nd0 F (.ok ((s.1 ++ [i], s.2), t))) : ckI G d mX12_saysOne [.ref 91, .int (nI q.1), .int (nI q.2.1), .int (nI q.2.2.1), .int (nI q.2.2.2)] I J P K n (fun v I' J' => F 1 (u2 I' 91 53 v) J') := by
  refine M_saysOne (i := i) hM g hl hq (fun I' g' f' => ?_)
  have o5 : ∀ c k, ¬ (c = 91 ∧ k = 53) → u2 I' 91 53 (nI s.1.length) c k = I' c k := fun c k hk => by simp only [u2]; rw [if_neg hk]
  have o6 : ∀ c k, c ≠ 115 → ¬ (c = 91 ∧ (k = 50 ∨ k = 53)) → u2 I' 91 53 (nI s.1.length) c k = I c k := fun c k h1 h2 => (o5 c k (by omega)).trans (f' c k h1 (by omega))
  refine h _ J _ s.1.length seg (rP_of R (fun k _ _ => o6 91 k (by decide) (by omega)) (fun j => o6 92 j (by decide) (by omega)) rfl) (rG_of g' (o5 91 50 (by omega)) (o5 91 51 (by omega)) (fun k => o5 115 k (by omega))) es (fun k hk => ?_) (u2_s _ _ _ _) ?_ (fun pv => ?_) ((o6 91 52 (by decide) (by omega)).trans h52) ((o6 91 10 (by decide) (by omega)).trans h10) (frZ_tr f ⟨fun c k h1 h2 => o6 c k h1 (by omega), fun _ _ _ => rfl⟩)
  · show upQ nd s.1.length q k = nd0 k
    unfold upQ
    rw [if_neg (by omega)]; exact en k hk
  · show s.1.length < (s.1 ++ [i]).length
    rw [List.length_append]; show _ < _ + 1; omega
  · rw [hv1]; exact hv2 pv
theorem hv_plain {pv : itT → Bool} {q : ndT} {m : Nat} (hq : 63 ≤ q.1) : hv pv (upQ nd m q) m = pv (itm q) := by
  have hu : upQ nd m q m = q := if_pos rfl
  show hvN pv _ (m + 1) m = _
  simp only [hvN, hu]
  rw [if_neg (by omega), if_neg (by omega), if_neg (by omega)]
theorem hv_not {pv : itT → Bool} {m k : Nat} (w : wfN nd m) (hk : k < m) : hv pv (upQ nd m (1, k, 0, 0)) m = !hv pv nd k := by
  have hu : upQ nd m (1, k, 0, 0) m = (1, k, 0, 0) := if_pos rfl
  show hvN pv _ (m + 1) m = _
  simp only [hvN, hu]
  rw [if_pos trivial]
  congr 1
  exact hvN_congr w (fun i hi => by unfold upQ; rw [if_neg (by omega)]) _ _ _ (by omega) hk hk
theorem nI_50 (w : Nat) : (50 + nI w : Int32) = nI (50 + w) := i_add 50 w
/-- a plain thing is kept as a node -/
theorem M_plainN {q : ndT} {i : itT} (hM : shM P K) (R : rP I J sz lm tp t) (g : rG I s nd) (hl : s.1.length < 60) (hq : 63 ≤ q.1 ∧ q.1 ≤ 71 ∧ (q.1 = 67 → q.2.1 ≤ 39)) (hq2 : q.2.1 ≤ 60 ∧ q.2.2.1 ≤ 999 ∧ q.2.2.2 ≤ 999) (hi : itm q = i) (hi2 : 13 ≤ i.1) (es : s.1 = s0.1) (en : ∀ k, k < s0.1.length → nd k = nd0 k) (f : frZ I0 I J0 J) (h52 : I 91 52 = I0 91 52) (h10 : I 91 10 = I0 91 10) (h : sPost I0 J0 sz lm tp s0 nd0 F (.ok ((s.1 ++ [i], s.2), t))) : ckI G d mX12_saysOne [.ref 91, .int (nI q.1), .int (nI q.2.1), .int (nI q.2.2.1), .int (nI q.2.2.2)] I J P K n (fun v I' J' => F 1 (u2 I' 91 53 v) J') :=
  M_node (seg := [i]) (v := fun pv => pv i) hM R g hl ⟨Or.inr (Or.inr hq), hq2⟩ (by rw [es]) (by rw [es]; exact Nat.le_refl _) en (fun pv => by rw [hv_plain hq.1, hi]) (fun pv x => ev_pl pv x hi2) f h52 h10 h
theorem M_readOf {w : Nat} (hw : w = 16 ∨ w = 17) (hM : shM P K) (h5 : hd 0 ≤ 5) (R : rP I J sz lm tp t) (g : rG I s nd) (hl : s.1.length < 60) (e0 : I 93 0 = nI (hd 0)) (N : rNm J hd nm) (h : sPost I J sz lm tp s nd F (match pPl (nxT tp sz lm) hd nm w t with
      | .error e => .error e
      | .ok p => .ok ((s.1 ++ [p.1], s.2), p.2))) : ckI G (d + 5) mX12_readOf [.ref 91, .int (nI w)] I J P K n F := by
  refine bX12_readOf_0 hM _ (bX12_readThat_0 hM _ ?_)
  rw [nI_50]
  rcases hw with rfl | rfl
  · refine br_t rfl (M_readScaleName hM R e0 h5 N ?_)
    simp only [pPl] at h
    rw [if_neg (by decide), if_pos trivial] at h
    cases hp : pSc (nxT tp sz lm) hd nm t with
    | error e => simp only [hp] at h; exact fun I' J' a1 a2 a3 => ⟨Or.inl rfl, br_t rfl (h I' J' a1 a2 (frZ_Q a3))⟩
    | ok p =>
      simp only [hp] at h
      intro I' J' R' e13 f
      refine ⟨Or.inr rfl, br_f (by decide) ?_⟩
      rw [e13]
      have hp1 := (pSc_ok hp).1
      exact M_plainN (q := (66, p.1, 0, 0)) (i := (16, 0, p.1)) hM R' (rG_Q g (frQ_R f)) hl ⟨by show 63 ≤ 66; decide, by show 66 ≤ 71; decide, fun z => absurd z (by show ¬ 66 = 67; decide)⟩ ⟨by show p.1 ≤ 60; omega, Nat.zero_le _, Nat.zero_le _⟩ rfl (by show 13 ≤ 16; decide) rfl (fun _ _ => rfl) (frZ_Q (frQ_R f)) (f.1 91 52 (by omega)) (f.1 91 10 (by omega)) h
  · refine br_f (by decide) (M_readNumQ (a := 0) (b := 39) (by decide) (by decide) hM R ?_)
    simp only [pPl] at h
    rw [if_neg (by decide), if_neg (by decide), if_pos trivial] at h
    cases hp : rdN (nxT tp sz lm) t 0 39 with
    | error e => simp only [hp] at h; exact fun I' J' a1 a2 a3 => ⟨Or.inl rfl, br_t rfl (h I' J' a1 a2 (frZ_Q a3))⟩
    | ok p =>
      simp only [hp] at h
      intro I' J' R' e13 f
      refine ⟨Or.inr rfl, br_f (by decide) ?_⟩
      rw [e13]
      have hp1 := (rdN_val hp).2.2
      exact M_plainN (q := (67, p.1, 0, 0)) (i := (17, 0, p.1)) hM R' (rG_Q g (frQ_R f)) hl ⟨by show 63 ≤ 67; decide, by show 67 ≤ 71; decide, fun _ => hp1⟩ ⟨by show p.1 ≤ 60; omega, Nat.zero_le _, Nat.zero_le _⟩ rfl (by show 13 ≤ 17; decide) rfl (fun _ _ => rfl) (frZ_Q (frQ_R f)) (f.1 91 52 (by omega)) (f.1 91 10 (by omega)) h
theorem isS_4 {t : tokT} {c : Nat} (h : isS t c = true) : t.1 = 4 ∧ t.2.2.2.1 = c := by
  unfold isS at h
  rw [Bool.and_eq_true] at h
  exact ⟨of_decide_eq_true h.1, of_decide_eq_true h.2⟩
theorem M_readCompare {w : Nat} (hw : 18 ≤ w ∧ w ≤ 21) (hM : shM P K) (R : rP I J sz lm tp t) (g : rG I s nd) (hl : s.1.length < 60) (h : sPost I J sz lm tp s nd F (match pPl (nxT tp sz lm) hd nm w t with
      | .error e => .error e
      | .ok p => .ok ((s.1 ++ [p.1], s.2), p.2))) : ckI G (d + 3) mX12_readCompare [.ref 91, .int (nI w)] I J P K n F := by
  simp only [pPl] at h
  rw [if_neg (by omega), if_neg (by omega), if_neg (by omega)] at h
  have main : ∀ c, (c = 60 ∨ c = 61 ∨ c = 62) → isS t c = true → Ok G (d + 3) mX12_readCompare 33 [some (.ref 91), some (.int (nI w)), none] [] I J P K n (kI P K n F) := by
    intro c hc e
    have hs : (isS t 60 || isS t 61 || isS t 62) = true := by rcases hc with rfl | rfl | rfl <;> simp [e]
    rw [if_pos hs] at h
    have e4 := isS_4 e
    have e9 : I 91 9 = nI t.2.2.2.1 := R.2.1.2.2.2.1 e4.1
    refine bX12_readCompare_33 hM _ (M_next' hM R (fun I2 J2 R2 f2 => ?_))
    refine M_readNumQ (a := 0) (b := 999) (by decide) (by decide) hM R2 ?_
    rw [e9, nI_50]
    cases hp : rdN (nxT tp sz lm) (nxT tp sz lm t) 0 999 with
    | error e => simp only [hp] at h; exact fun I' J' a1 a2 a3 => br_t rfl (h I' J' a1 a2 (frZ_tr (frZ_go f2) (frZ_Q a3)))
    | ok p =>
      simp only [hp] at h
      intro I' J' R' e13 f
      refine br_f (by decide) ?_
      rw [e13]
      have hp1 := (rdN_val hp).2.2
      have fq := frQ_tr (frQ_go f2) (frQ_R f)
      have f52 : I' 91 52 = I 91 52 := fq.1 91 52 (by omega)
      have f10 : I' 91 10 = I 91 10 := by rw [f.1 91 10 (by omega), f2.1 91 10 (by omega)]
      exact M_plainN (q := (50 + w, 0, p.1, t.2.2.2.1)) (i := (w, t.2.2.2.1, p.1)) hM R' (rG_Q g fq) hl ⟨by show 63 ≤ 50 + w; omega, by show 50 + w ≤ 71; omega, fun z => absurd z (by show ¬ 50 + w = 67; omega)⟩ ⟨Nat.zero_le _, hp1, by show t.2.2.2.1 ≤ 999; rcases hc with rfl | rfl | rfl <;> omega⟩ (by unfold itm; rw [if_neg (by show ¬ (50 + w = 66 ∨ 50 + w = 67); omega)]; show (50 + w - 50, _, _) = _; rw [show 50 + w - 50 = w by omega]) (by show 13 ≤ w; omega) rfl (fun _ _ => rfl) (frZ_Q fq) f52 f10 h
  refine bX12_readCompare_0 hM _ (M_isSign (c := 60) (by decide) hM R.2.1 R.2.2 (b01n (fun e1 => ?_) (fun e1 => main 60 (Or.inl rfl) e1)))
  refine M_isSign (c := 61) (by decide) hM R.2.1 R.2.2 (b01n (fun e2 => ?_) (fun e2 => main 61 (Or.inr (Or.inl rfl)) e2))
  refine M_isSign (c := 62) (by decide) hM R.2.1 R.2.2 (b01n (fun e3 => ?_) (fun e3 => main 62 (Or.inr (Or.inr rfl)) e3))
  rw [e1, e2, e3] at h
  exact M_bad 1 hM R.2.1 R.2.2 (fun I' a1 a2 a3 => ⟨Or.inl rfl, h I' J a1 a2 (frZ_Q (frQ_bad a3))⟩)
theorem M_readBracket {D wi : Nat} {sd : sgT → tokT → pE (sgT × tokT)} (hM : shM P K) (S : SD G (D + 2) mX12_readOr P K n sz lm tp hd nm wi sd) : SD G (D + 3) mX12_readBracket P K n sz lm tp hd nm wi (fun s t => match sd s t with
      | .error e => .error e
      | .ok p => if isS p.2 41 then .ok (p.1, nxT tp sz lm p.2) else fl p.2 1) := by
  intro I J s nd t F R g hlen hw e0 N h
  refine bX12_readBracket_0 hM (S I J s nd t _ R g hlen hw e0 N ?_)
  simp only at h
  cases hp : sd s t with
  | error er => rw [hp] at h; exact fun I' J' a1 a2 a3 => br_t rfl (h I' J' a1 a2 a3)
  | ok p =>
    simp only [hp] at h
    intro I3 J3 nd3 top sg R3 g3 es3 en3 h53 htop ho3 k52 k10 f3
    refine br_f (by decide) (M_isSign (c := 41) (by decide) hM R3.2.1 R3.2.2 (b01n (fun e1 => ?_) (fun e1 => ?_)))
    · rw [if_neg (by rw [e1]; decide)] at h
      exact M_bad 1 hM R3.2.1 R3.2.2 (fun I' a1 a2 a3 => ⟨Or.inl rfl, h I' J3 a1 a2 (frZ_tr f3 (frZ_Q (frQ_bad a3)))⟩)
    · rw [if_pos e1] at h
      refine M_next' hM R3 (fun I4 J4 R4 f4 => ?_)
      exact h I4 J4 nd3 top sg R4 (rG_Q g3 (frQ_go f4)) es3 en3 ((f4.1 91 53 (by omega)).trans h53) htop ho3 ((f4.1 91 52 (by omega)).trans k52) ((f4.1 91 10 (by omega)).trans k10) (frZ_tr f3 (frZ_go f4))
theorem M_readNot {D wi : Nat} {sd : sgT → tokT → pE (sgT × tokT)} (hM : shM P K) (o : okSd sd) (S : SD G (D + 2) mX12_readSaid P K n sz lm tp hd nm wi sd) : SD G (D + 3) mX12_readNot P K n sz lm tp hd nm wi (fun s t => match sd s t with
      | .error e => .error e
      | .ok p => .ok ((p.1.1 ++ [(12, 0, 0)], p.1.2), p.2)) := by
  intro I J s nd t F R g hlen hw e0 N h
  refine bX12_readNot_0 hM (S I J s nd t _ R g hlen hw e0 N ?_)
  simp only at h
  cases hp : sd s t with
  | error er => rw [hp] at h; exact fun I' J' a1 a2 a3 => br_t rfl (h I' J' a1 a2 a3)
  | ok p =>
    simp only [hp] at h
    intro I3 J3 nd3 top sg R3 g3 es3 en3 h53 htop ho3 k52 k10 f3
    refine br_f (by decide) ?_
    rw [h53]
    obtain ⟨sg', q1, q2, q3, q4⟩ := o s _ p g.2.2.1 hp
    have hpl : p.1.1.length = s.1.length + sg.length := by rw [es3, List.length_append]
    have hsl : sg.length + 1 ≤ 2 * (p.1.2 - s.2) := by
      have : sg.length = sg'.length := by have := congrArg List.length (es3.symm.trans q1); simpa using this
      omega
    exact M_node (q := (1, top, 0, 0)) (i := (12, 0, 0)) (seg := sg ++ [(12, 0, 0)]) (v := fun pv => !hv pv nd3 top) hM R3 g3 (by omega) ⟨Or.inl ⟨rfl, htop⟩, by show top ≤ 60; omega, Nat.zero_le _, Nat.zero_le _⟩ (by rw [es3, List.append_assoc]) (by omega) en3 (fun pv => hv_not g3.2.2.2.1 htop) (fun pv x => by rw [ev_app, ho3 pv, ev_not]) f3 k52 k10 h
end ModSent3
