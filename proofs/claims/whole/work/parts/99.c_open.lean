/-! shapes that stay; a house is read from its start -/
theorem shX_of {P P' : sP} {K K' : sK} (h : shX P K) (hP : ∀ x k, x ≤ 34 → x ≠ 2 → x ≠ 29 → x ≠ 30 → x ≠ 31 → ¬ (x = 0 ∧ 8 ≤ k ∧ k ≤ 10) → P' x k = P x k) (hK : ∀ x, x ≤ 34 → K' x = K x) : shX P' K' := by
  have p : ∀ x k, (x ≤ 34 ∧ x ≠ 2 ∧ x ≠ 29 ∧ x ≠ 30 ∧ x ≠ 31 ∧ ¬ (x = 0 ∧ 8 ≤ k ∧ k ≤ 10)) → P' x k = P x k := fun x k q => hP x k q.1 q.2.1 q.2.2.1 q.2.2.2.1 q.2.2.2.2.1 q.2.2.2.2.2
  unfold shX at h ⊢
  rw [hK 0 (by decide), hK 1 (by decide), hK 2 (by decide), hK 4 (by decide), hK 5 (by decide), hK 6 (by decide), hK 7 (by decide), hK 8 (by decide), hK 9 (by decide), hK 10 (by decide), hK 11 (by decide), hK 12 (by decide), hK 13 (by decide), hK 14 (by decide), hK 15 (by decide), hK 16 (by decide), hK 17 (by decide), hK 18 (by decide), hK 19 (by decide), hK 20 (by decide), hK 21 (by decide), hK 22 (by decide), hK 23 (by decide), hK 24 (by decide), hK 25 (by decide), hK 26 (by decide), hK 27 (by decide), hK 28 (by decide), hK 29 (by decide), hK 30 (by decide), hK 31 (by decide), hK 32 (by decide), hK 33 (by decide), hK 34 (by decide), p 0 0 (by decide), p 0 2 (by decide), p 0 4 (by decide), p 4 0 (by decide), p 4 1 (by decide), p 4 2 (by decide), p 4 3 (by decide), p 4 4 (by decide), p 0 5 (by decide), p 10 0 (by decide), p 10 4 (by decide), p 12 0 (by decide), p 12 1 (by decide), p 12 2 (by decide), p 12 3 (by decide), p 10 5 (by decide), p 10 6 (by decide), p 10 8 (by decide), p 10 9 (by decide), p 0 6 (by decide), p 0 7 (by decide), p 22 0 (by decide), p 22 1 (by decide), p 22 2 (by decide), p 22 3 (by decide), p 22 4 (by decide), p 22 5 (by decide), p 0 11 (by decide), p 0 14 (by decide), p 0 15 (by decide), p 0 16 (by decide), p 0 18 (by decide), p 33 0 (by decide)]
  exact h
theorem shC_of {P P' : sP} {K K' : sK} {c : Nat} (h : shC P K c) (hP : ∀ x k, c ≤ x → x ≤ c + 24 → ¬ (x = c ∧ k = 0) → P' x k = P x k) (hK : ∀ x, c ≤ x → x ≤ c + 24 → K' x = K x) : shC P' K' c := by
  obtain ⟨h1, h2, h3, h4, h5, h6, h7, h8, h9, h10⟩ := h
  exact ⟨(hK _ (by omega) (by omega)).trans h1, (hP _ _ (by omega) (by omega) (by omega)).trans h2, (hK _ (by omega) (by omega)).trans h3, (hP _ _ (by omega) (by omega) (by omega)).trans h4, (hK _ (by omega) (by omega)).trans h5, (hP _ _ (by omega) (by omega) (by omega)).trans h6, (hK _ (by omega) (by omega)).trans h7, (hP _ _ (by omega) (by omega) (by omega)).trans h8, (hK _ (by omega) (by omega)).trans h9, fun k hk => ⟨(hP _ _ (by omega) (by omega) (by omega)).trans (h10 k hk).1, (hK _ (by omega) (by omega)).trans (h10 k hk).2⟩⟩
theorem shL_of {P P' : sP} {K K' : sK} {l : Nat} (h : shL P K l) (hP : ∀ x k, l ≤ x → x ≤ l + 5 → P' x k = P x k) (hK : ∀ x, l ≤ x → x ≤ l + 5 → K' x = K x) : shL P' K' l := by
  obtain ⟨h1, h2, h3, h4, h5, h6, h7, h8, h9, h10, h11⟩ := h
  exact ⟨(hK _ (by omega) (by omega)).trans h1, (hP _ _ (by omega) (by omega)).trans h2, (hK _ (by omega) (by omega)).trans h3, (hP _ _ (by omega) (by omega)).trans h4, (hK _ (by omega) (by omega)).trans h5, (hP _ _ (by omega) (by omega)).trans h6, (hK _ (by omega) (by omega)).trans h7, (hP _ _ (by omega) (by omega)).trans h8, (hK _ (by omega) (by omega)).trans h9, (hP _ _ (by omega) (by omega)).trans h10, (hK _ (by omega) (by omega)).trans h11⟩
theorem h0_15 (j : Nat) : h0 (15 + j) = 0 := by
  unfold h0
  rw [if_neg (by omega), if_neg (by omega), if_neg (by omega)]
theorem hv_h0 (k : Nat) : hvH h0 k = 0 := by
  have : ∀ m, sm (fun v => h0 (15 + 40 * k + v)) m = 0 := by
    intro m
    induction m with
    | zero => rfl
    | succ m ih =>
      show sm _ m + h0 (15 + 40 * k + m) = 0
      rw [ih, Nat.add_assoc, h0_15]
  exact this 40
section Hs11
variable {G : gG} {d : Nat} {I I0 : sI} {J J0 : sJ} {P : sP} {K : sK} {n : Nat} {sz lm : Nat} {tp : Nat → Nat} {t : tokT} {H : hS} {a c l : Nat}
theorem C_readH {FQ : Int32 → sI → sJ → sP → sK → Nat → Prop} (hX : shX P K) (hP : P 2 0 = some 1) (hH : shH P K a c l) (hC : shC P K c) (hL : shL P K l) (p : ap6 a c l) (R : rP6 I J sz lm tp (tok tp sz lm 0)) (A : nwL I l) (B : I a 3 = 0 ∧ I a 4 = 0 ∧ I a 5 = 0 ∧ I a 6 = 0) (h : hQ6 a c l I J (fun v I J => FQ v I J (u2 P c 0 (some l)) K n) (pHs (nxT tp sz lm) 941 H0 (tok tp sz lm 0) 0)) : cqI G (d + 9) mX4_read [.ref a] I J P K n FQ := by
  obtain ⟨p1, p2, p3, p4, p5, p6⟩ := id p
  have hsz := R.1.2.2.1
  refine bX4_read_0 _ hH hC hL (C_clear hC (by rw [hL.1]) (by omega) (fun I1 q1 q2 q3 q4 q5 q6 => ⟨by rw [hH.1], ?_⟩))
  have r1 : ∀ z k, z ≠ a → ¬ (c ≤ z ∧ z ≤ c + 24) → u2 I1 a 7 0 z k = I z k := fun z k h1 h2 => (u2_a _ _ _ _ h1).trans (q1 z k h2)
  have r2 : ∀ z k, (c ≤ z ∧ z ≤ c + 24) → u2 I1 a 7 0 z k = I1 z k := fun z k h2 => u2_a _ _ _ _ (by omega)
  have r3 : ∀ k, k ≠ 7 → u2 I1 a 7 0 a k = I a k := fun k hk => (u2_k _ _ _ _ hk).trans (q1 a k (by omega))
  have sm : ∀ x k, x ≠ c → u2 P c 0 (some l) x k = P x k := fun x k hx => u2_a _ _ _ _ hx
  refine C_read16 (I0 := I) (J0 := J) (sz := sz) (lm := lm) (tp := tp) (shX_of hX (fun x k h1 _ _ _ _ _ => sm x k (by omega)) (fun _ _ => rfl)) ((sm 2 0 (by omega)).trans hP) ⟨hH.1, (sm _ _ (by omega)).trans hH.2.1, (sm _ _ (by omega)).trans hH.2.2.1, (sm _ _ (by omega)).trans hH.2.2.2⟩ (shC_0 hC _ (fun k _ => by omega)) (shL_of hL (fun x k h1 h2 => sm x k (by omega)) (fun _ _ _ => rfl)) (u2_s _ _ _ _) p 941 H0 (tok tp sz lm 0) 0 _ J (by omega) (by omega) (fun z => (tok_adv (tp := tp) (lm := lm) (Nat.zero_le sz)).2 z) ?_ ⟨⟨fun k hk => ?_, fun s hs => absurd hs (Nat.not_lt_zero s), fun k hk => absurd hk (Nat.not_lt_zero k)⟩, fun s hs => absurd hs (Nat.not_lt_zero s), ⟨?_, ?_, fun k v hk hv => ?_, fun k hk => ⟨?_, ?_⟩, fun v hv => ?_⟩, ?_, ?_, ?_, ?_⟩ wH_0 (u2_s _ _ _ _) (r1 _ _ (by omega) (by omega)) (r1 _ _ (by omega) (by omega)) ⟨fun x k h1 h2 h3 h4 => r1 x k h2 h4, fun _ _ _ _ => rfl⟩ h
  · obtain ⟨S, T, o⟩ := R
    have e : ∀ x k, x ≤ 2 → u2 I1 a 7 0 x k = I x k := fun x k hx => r1 x k (by omega) (by omega)
    exact ⟨⟨(e 2 1 (by omega)).trans S.1, (e 2 2 (by omega)).trans S.2.1, S.2.2.1, S.2.2.2.1, fun j hj => ⟨(e 1 j (by omega)).trans (S.2.2.2.2 j hj).1, (S.2.2.2.2 j hj).2⟩⟩, ⟨(e 2 3 (by omega)).trans T.1, (e 2 4 (by omega)).trans T.2.1, (e 2 5 (by omega)).trans T.2.2.1, fun z => (e 2 6 (by omega)).trans (T.2.2.2.1 z), T.2.2.2.2.1, (e 2 8 (by omega)).trans T.2.2.2.2.2⟩, o⟩
  · rw [r1 _ _ (by omega) (by omega)]
    match k, hk with
    | 0, _ => exact A.1
    | 1, _ => exact A.2.1
    | 2, _ => exact A.2.2.1
    | 3, _ => exact A.2.2.2.1
    | 4, _ => exact A.2.2.2.2
    | k + 5, hk => omega
  · rw [r2 _ _ (by omega)]; exact q2
  · rw [r2 _ _ (by omega)]; exact q3
  · rw [r2 _ _ (by omega), q4 k v hk hv]
    show _ = nI (h0 _)
    rw [Nat.add_assoc, h0_15]
    rfl
  · rw [r2 _ _ (by omega), (q5 k hk).1]
    show _ = nI (hvH h0 k)
    rw [hv_h0]
    rfl
  · rw [r2 _ _ (by omega)]; exact (q5 k hk).2
  · rw [r2 _ _ (by omega)]; exact q6 v hv
  · exact (r3 _ (by decide)).trans B.1
  · exact (r3 _ (by decide)).trans B.2.1
  · exact (r3 _ (by decide)).trans B.2.2.1
  · exact (r3 _ (by decide)).trans B.2.2.2
/-- the tape is opened -/
theorem C_openTape {F : sI → sJ → sP → sK → Nat → Prop} {tl lim : Nat} (hX : shX P K) (h1 : I 0 1 = nI tl) (ht : tl ≤ 940) (hl : lim ≤ 1000) (T : ∀ j, j < tl → I 1 j = nI (tp j) ∧ tp j ≤ 255) (h : ∀ I' J', rP6 I' J' tl lim tp (tok tp tl lim 0) → I' 2 9 = 0 → I' 2 10 = 0 → I' 0 1 = 0 → (∀ c k, c ≠ 2 → ¬ (c = 0 ∧ k = 1) → I' c k = I c k) → (∀ c k, ¬ (c = 2 ∧ k = 7) → J' c k = J c k) → F I' J' (u2 P 2 0 (some 1)) K n) : cqV G (d + 7) mX11_openTape [.ref 0, .int (nI lim)] I J P K n F := by
  have k2 : (K 2).1 = 6 := by rw [shX_K2 hX]
  have k1 : K 1 = (13, 940) := shX_K1 hX
  refine bX11_openTape_0 hX _ (bX6_open_0 hX _ _ _ ⟨by rw [k1], k2, k2, k2, k2, k2, k2, ?_⟩)
  rw [h1, k1]
  have e : (if nI (13, 940).2 < nI tl then nI (13, 940).2 else nI tl : Int32) = nI tl := if_neg (nI_nlt (a := 940) ht (by decide))
  rw [e]
  obtain ⟨I1, hI1⟩ : ∃ I1, I1 = u2 (u2 (u2 (u2 (u2 I 2 1 (nI tl)) 2 2 (nI lim)) 2 3 0) 2 9 0) 2 10 0 := ⟨_, rfl⟩
  rw [← hI1]
  have r : ∀ c k, c ≠ 2 → I1 c k = I c k := fun c k hc => by rw [hI1, u2_a _ _ _ _ hc, u2_a _ _ _ _ hc, u2_a _ _ _ _ hc, u2_a _ _ _ _ hc, u2_a _ _ _ _ hc]
  have S : rT6 I1 tl lim tp := ⟨by rw [hI1, u2_k _ _ _ _ (by decide), u2_k _ _ _ _ (by decide), u2_k _ _ _ _ (by decide), u2_k _ _ _ _ (by decide), u2_s], by rw [hI1, u2_k _ _ _ _ (by decide), u2_k _ _ _ _ (by decide), u2_k _ _ _ _ (by decide), u2_s], ht, hl, fun j hj => ⟨(r 1 j (by decide)).trans (T j hj).1, (T j hj).2⟩⟩
  have e9 : I1 2 9 = 0 := by rw [hI1, u2_k _ _ _ _ (by decide), u2_s]
  have e10 : I1 2 10 = 0 := by rw [hI1, u2_s]
  refine C_next (p := 0) (shX_of hX (fun x k _ hx _ _ _ _ => u2_a _ _ _ _ hx) (fun _ _ => rfl)) (u2_s _ _ _ _) S (Nat.zero_le _) (by rw [hI1, u2_k _ _ _ _ (by decide), u2_k _ _ _ _ (by decide), u2_s]; rfl) (fun I' J' g1 g2 => ⟨by rw [shX_K0 hX], ?_⟩)
  have R : rP6 I' J' tl lim tp (tok tp tl lim 0) := ⟨rT6_fr S g2, g1, tok_ok ht hl (Nat.zero_le _) (fun j hj => (T j hj).2), tok_sg _ _ _ _⟩
  have q : ∀ c k, c ≠ 0 → u2 I' 0 1 0 c k = I' c k := fun c k hc => u2_a _ _ _ _ hc
  obtain ⟨S', T', o'⟩ := R
  refine h _ _ ⟨⟨(q _ _ (by decide)).trans S'.1, (q _ _ (by decide)).trans S'.2.1, S'.2.2.1, S'.2.2.2.1, fun j hj => ⟨(q _ _ (by decide)).trans (S'.2.2.2.2 j hj).1, (S'.2.2.2.2 j hj).2⟩⟩, ⟨(q _ _ (by decide)).trans T'.1, (q _ _ (by decide)).trans T'.2.1, (q _ _ (by decide)).trans T'.2.2.1, fun z => (q _ _ (by decide)).trans (T'.2.2.2.1 z), T'.2.2.2.2.1, (q _ _ (by decide)).trans T'.2.2.2.2.2⟩, o'⟩ ?_ ?_ (u2_s _ _ _ _) (fun c k hc hk => ?_) g2.2
  · rw [q _ _ (by decide), g2.1 2 9 (by omega)]; exact e9
  · rw [q _ _ (by decide), g2.1 2 10 (by omega)]; exact e10
  · by_cases c0 : c = 0
    · subst c0
      rw [u2_k _ _ _ _ (by omega), g2.1 _ _ (by omega)]
      exact r _ _ hc
    · rw [q _ _ c0, g2.1 _ _ (by omega)]
      exact r _ _ hc
end Hs11
