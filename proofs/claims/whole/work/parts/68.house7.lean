section ModHouse7
variable {G : gG} {d : Nat} {I I0 : sI} {J J0 : sJ} {P : sP} {K : sK} {n : Nat} {F : Int32 → sI → sJ → Prop} {FV : sI → sJ → Prop} {sz lm : Nat} {tp : Nat → Nat} {t : tokT} {H : hS}
theorem nI_lit2 : (2 : Int32) = nI 2 := rfl
theorem M_startTold {a len : Nat} (ka : K a = (13, len)) (hl : 815 ≤ len) (hl2 : len ≤ 100000) (h : ∀ I', (∀ k, k < 815 → I' a k = nI (h0 k)) → (∀ c k, c ≠ a → I' c k = I c k) → (∀ k, 815 ≤ k → I' a k = I a k) → FV I' J) : ckV G d mX12_startTold [.ref a] I J P K n FV := by
  refine bX12_startTold_0 a ?_
  have key := loopN 815 (fun j => Ok G d mX12_startTold 2 [some (.ref a), some (.int (nI j))] [] (wr I a 0 j (fun _ => 0)) J P K n (kV P K n FV)) ?_ ?_ 0 (by decide)
  · rw [wr_0] at key; exact key
  · refine bX12_startTold_2 a _ (br_t (nI_le (b := 815) (Nat.le_refl 815) (by decide)) ?_)
    rw [ka]
    refine ⟨rfl, nI_inN (n := 2) (by show 2 < len; omega) (by show len ≤ _; omega), rfl, nI_inN (n := 3) (by show 3 < len; omega) (by show len ≤ _; omega), rfl, nI_inN (n := 4) (by show 4 < len; omega) (by show len ≤ _; omega), ?_⟩
    refine h _ (fun k hk => ?_) (fun c k hc => ?_) (fun k hk => ?_)
    · unfold h0
      by_cases c4 : k = 4
      · subst c4; rw [u2_s]; rfl
      · rw [u2_k _ _ _ _ c4]
        by_cases c3 : k = 3
        · subst c3; rw [u2_s]; rfl
        · rw [u2_k _ _ _ _ c3]
          by_cases c2 : k = 2
          · subst c2; rw [u2_s]; rfl
          · rw [u2_k _ _ _ _ c2, if_neg c2, if_neg c3, if_neg c4]
            have := wr_in I a 0 815 (fun _ => (0 : Int32)) hk
            rw [Nat.zero_add] at this
            rw [this]; rfl
    · rw [u2_a _ _ _ _ hc, u2_a _ _ _ _ hc, u2_a _ _ _ _ hc, wr_a _ _ _ _ _ hc]
    · rw [u2_k _ _ _ _ (by omega), u2_k _ _ _ _ (by omega), u2_k _ _ _ _ (by omega), wr_k _ _ _ _ _ _ (by omega)]
  · intro j hj ih
    refine bX12_startTold_2 a _ (br_f (nI_ge (b := 815) hj (by decide)) ?_)
    rw [ka]
    refine ⟨rfl, nI_inN (by show j < len; omega) (by show len ≤ _; omega), ?_⟩
    rw [nI_ck (by omega), nI_1]
    have e := wr_s I a 0 j (fun _ => (0 : Int32))
    rw [Nat.zero_add] at e
    rw [e]
    exact ih
theorem M_startSo {hd : Nat → Nat} (hM : shM P K) (A : ∀ k, k < 815 → I 93 k = nI (hd k)) (h : ∀ I', (∀ k, k < 815 → I' 93 k = nI (hd k)) → soM I' (stS hd) → (∀ k, 1678 ≤ k → k < 1920 → I' 93 k = 0) → (∀ c k, c ≠ 93 → I' c k = I c k) → FV I' J) : ckV G d mX12_startSo [.ref 91] I J P K n FV := by
  refine bX12_startSo_0 ?_
  have key := loopN 1105 (fun j => Ok G d mX12_startSo 4 [some (.ref 91), some (.int (nI (815 + j)))] [] (wr I 93 815 j (fun _ => 0)) J P K n (kV P K n FV)) ?_ ?_ 0 (by decide)
  · rw [wr_0] at key; exact key
  · refine bX12_startSo_4 hM _ (br_t (nI_le (b := 1920) (Nat.le_refl 1920) (by decide)) ?_)
    have e4 : wr I 93 815 1105 (fun _ => (0 : Int32)) 93 4 = nI (hd 4) := by rw [wr_k _ _ _ _ _ _ (by omega)]; exact A 4 (by decide)
    rw [e4]
    generalize hB : u2 (wr I 93 815 1105 (fun _ => (0 : Int32))) 93 815 (nI (hd 4)) = B
    have b0 : ∀ k, k < 815 → B 93 k = nI (hd k) := fun k hk => by rw [← hB, u2_k _ _ _ _ (by omega), wr_k _ _ _ _ _ _ (by omega)]; exact A k hk
    have b1 : B 93 815 = nI (hd 4) := by rw [← hB, u2_s]
    have b2 : ∀ k, k < 1105 → k ≠ 0 → B 93 (815 + k) = 0 := fun k hk hk0 => by rw [← hB, u2_k _ _ _ _ (by omega), wr_in _ _ _ _ _ hk]
    have b3 : ∀ c k, c ≠ 93 → B c k = I c k := fun c k hc => by rw [← hB, u2_a _ _ _ _ hc, wr_a _ _ _ _ _ hc]
    have key2 := loopN 800 (fun j => Ok G d mX12_startSo 40 [some (.ref 91), some (.int (nI j))] [] (wr B 93 878 j (fun k => nI (hd (15 + k)))) J P K n (kV P K n FV)) ?_ ?_ 0 (by decide)
    · rw [wr_0] at key2; exact key2
    · refine bX12_startSo_40 hM _ (br_t (nI_le (b := 800) (Nat.le_refl 800) (by decide)) ?_)
      refine h _ (fun k hk => ?_) (fun j hj => ?_) (fun k h1 h2 => ?_) (fun c k hc => ?_)
      · rw [wr_k _ _ _ _ _ _ (by omega)]; exact b0 k hk
      · unfold stS
        by_cases c0 : j = 0
        · subst c0; rw [if_pos rfl, wr_k _ _ _ _ _ _ (by omega)]; exact b1
        · rw [if_neg c0]
          by_cases c1 : j < 63
          · rw [if_pos c1, wr_k _ _ _ _ _ _ (by omega)]; exact b2 j (by omega) c0
          · rw [if_neg c1, show 815 + j = 878 + (j - 63) by omega, wr_in _ _ _ _ _ (by omega), show 15 + (j - 63) = j - 48 by omega]
      · rw [wr_k _ _ _ _ _ _ (by omega), show k = 815 + (k - 815) by omega]; exact b2 _ (by omega) (by omega)
      · rw [wr_a _ _ _ _ _ hc]; exact b3 c k hc
    · intro j hj ih
      refine bX12_startSo_40 hM _ (br_f (nI_ge (b := 800) hj (by decide)) ?_)
      have e1 : (15 + nI j : Int32) = nI (15 + j) := by show nI 15 + nI _ = _; rw [i_add]
      have e2 : (878 + nI j : Int32) = nI (878 + j) := by show nI 878 + nI _ = _; rw [i_add]
      rw [e1, e2]
      refine ⟨nI_inN (by omega) (by decide), nI_inN (by omega) (by decide), ?_⟩
      rw [nI_ck (by omega), nI_ck (by omega), nI_1, wr_k _ _ _ _ _ _ (k := 15 + j) (by omega), b0 _ (by omega)]
      have e := wr_s B 93 878 j (fun k => nI (hd (15 + k)))
      rw [e]
      exact ih
  · intro j hj ih
    refine bX12_startSo_4 hM _ (br_f (nI_ge (b := 1920) (by omega) (by decide)) ⟨nI_inN (by omega) (by decide), ?_⟩)
    rw [nI_ck (by omega), nI_1]
    have e := wr_s I 93 815 j (fun _ => (0 : Int32))
    rw [e]
    exact ih
/-- what house leaves, where it is refused or not -/
def hPost (I0 : sI) (J0 : sJ) (F : Int32 → sI → sJ → Prop) (r : pE (hS × Nat)) : Prop := match r with
  | .error e => ∀ I' J', I' 91 10 = nI e.1 → (∀ c k, c ≠ 94 → ¬ (c = 91 ∧ ((5 ≤ k ∧ k ≤ 11) ∨ k = 13 ∨ (23 ≤ k ∧ k ≤ 26))) → I' c k = I0 c k) → (∀ c k, c ≠ 99 → ¬ (c = 91 ∧ k = 12) → J' c k = J0 c k) → F ((-1) - nI e.2) I' J'
  | .ok p => ∀ I' J', (∀ k, k < 815 → I' 93 k = nI (p.1.1 k)) → soM I' (stS p.1.1) → (∀ k, 1678 ≤ k → k < 1920 → I' 93 k = 0) → I' 91 27 = 0 → I' 91 10 = I0 91 10 → (∀ s, s < p.1.1 0 → J' 98 s = lN (vB 27 (p.1.2.1 s) 0) ∧ okW (p.1.2.1 s)) → (∀ c k, c ≠ 94 → c ≠ 93 → ¬ (c = 91 ∧ ((5 ≤ k ∧ k ≤ 11) ∨ k = 13 ∨ (23 ≤ k ∧ k ≤ 27))) → I' c k = I0 c k) → (∀ c k, c ≠ 99 → c ≠ 98 → ¬ (c = 91 ∧ k = 12) → J' c k = J0 c k) → F (nI p.2) I' J'
theorem M_house72 {c : Nat} (hM : shM P K) (A : rH I J H) (w0 : wH H) (f : frH I0 I J0 J) (hf : I 91 10 = I0 91 10) (h : hPost I0 J0 F (.ok (H, c))) : Ok G (d + 1) mX12_house 72 [some (.ref 91), some (.int (nI c)), some (.int 0)] [] I J P K n (kI P K n F) := by
  have h5 : H.1 0 ≤ 5 := w0.1.1
  have key := loopN 815 (fun j => Ok G (d + 1) mX12_house 72 [some (.ref 91), some (.int (nI c)), some (.int (nI j))] [] (wr I 93 0 j (fun k => nI (H.1 k))) J P K n (kI P K n F)) ?_ ?_ 0 (by decide)
  · rw [wr_0] at key; exact key
  · refine bX12_house_72 hM _ _ (br_t (nI_le (b := 815) (Nat.le_refl 815) (by decide)) ?_)
    generalize hB : wr I 93 0 815 (fun k => nI (H.1 k)) = B
    have b0 : ∀ k, k < 815 → B 93 k = nI (H.1 k) := fun k hk => by
      have := wr_in I 93 0 815 (fun k => nI (H.1 k)) hk
      rw [Nat.zero_add, hB] at this; exact this
    have b3 : ∀ c k, c ≠ 93 → B c k = I c k := fun c k hc => by rw [← hB, wr_a _ _ _ _ _ hc]
    have key2 := loopN 5 (fun j => Ok G (d + 1) mX12_house 99 [some (.ref 91), some (.int (nI c)), some (.int (nI j))] [] B (wr J 98 0 j (fun k => J 99 k)) P K n (kI P K n F)) ?_ ?_ 0 (by decide)
    · rw [wr_0] at key2; exact key2
    · refine bX12_house_99 hM _ _ (br_t (nI_le (b := 5) (Nat.le_refl 5) (by decide)) ?_)
      refine M_startSo hM b0 (fun I' g1 g2 g3 g4 => ?_)
      refine h _ _ (fun k hk => ?_) (fun j hj => ?_) (fun k h1 h2 => ?_) (u2_s _ _ _ _) ?_ (fun s hs => ?_) (fun c k h1 h2 h3 => ?_) (fun c k h1 h2 h3 => ?_)
      · rw [u2_a _ _ _ _ (by decide)]; exact g1 k hk
      · rw [u2_a _ _ _ _ (by decide)]; exact g2 j hj
      · rw [u2_a _ _ _ _ (by decide)]; exact g3 k h1 h2
      · rw [u2_k _ _ _ _ (by decide), g4 91 10 (by decide), b3 91 10 (by decide)]; exact hf
      · have hs' : s < 5 := by have hs : s < H.1 0 := hs; omega
        have := wr_in J 98 0 5 (fun k => J 99 k) hs'
        rw [Nat.zero_add] at this
        rw [this]; exact A.2.1 s hs
      · have e : u2 I' 91 27 0 c k = I' c k := by simp only [u2]; rw [if_neg (by omega)]
        rw [e, g4 c k h2, b3 c k h2]; exact f.1 c k h1 (by omega)
      · rw [wr_a _ _ _ _ _ h2]; exact f.2 c k h1 h3
    · intro j hj ih
      refine bX12_house_99 hM _ _ (br_f (nI_ge (b := 5) hj (by decide)) ⟨nI_inN hj (by decide), nI_inN hj (by decide), ?_⟩)
      rw [nI_ck (by omega), nI_1, wr_a _ _ _ _ _ (by decide)]
      have e := wr_s J 98 0 j (fun k => J 99 k)
      rw [Nat.zero_add] at e
      rw [e]
      exact ih
  · intro j hj ih
    refine bX12_house_72 hM _ _ (br_f (nI_ge (b := 815) hj (by decide)) ⟨nI_inN hj (by decide), nI_inN (by omega) (by decide), ?_⟩)
    rw [nI_ck (by omega), nI_1, wr_a _ _ _ _ _ (by decide), A.1 j hj]
    have e := wr_s I 93 0 j (fun k => nI (H.1 k))
    rw [Nat.zero_add] at e
    rw [e]
    exact ih
theorem M_house36 (hM : shM P K) : ∀ (fu : Nat) (H : hS) (t : tokT) (c : Nat) (I : sI) (J : sJ), sz < t.2.2.1 + fu → rP I J sz lm tp t → rH I J H → wH H → frH I0 I J0 J → I 91 10 = I0 91 10 → hPost I0 J0 F (pHs (nxT tp sz lm) fu H t c) → Ok G (d + 5) mX12_house 36 [some (.ref 91), some (.int (nI c)), none] [] I J P K n (kI P K n F) := by
  intro fu
  induction fu with
  | zero => intro H t c I J hf R; have := R.2.2.2.1; omega
  | succ fu ih =>
    intro H t c I J hf R A w0 f hfl h
    have o := rS_okTx R.1
    have k7 := R.2.1.1
    have k4 := R.2.2.1
    simp only [pHs] at h
    refine bX12_house_36 hM _ ?_
    rw [k7]
    refine ⟨fun q => ?_, fun q => ?_⟩
    · have e : t.1 = 0 := (nI_eq (by omega) (by decide)).mp q
      rw [if_pos e] at h
      refine ok_lessB (L' := [some (.ref 91), some (.int (nI c)), some (.int 0)]) ⟨rfl, rfl, rfl, trivial⟩ ?_
      exact M_house72 hM A w0 f hfl h
    · have e : ¬ t.1 = 0 := fun z => q (by rw [z]; rfl)
      rw [if_neg e] at h
      refine M_readLine hM R A w0 ?_
      cases hp : pLine (nxT tp sz lm) H t with
      | error er =>
        rw [hp] at h
        intro I' J' a1 a2 a3
        refine br_t rfl ?_
        rw [a2]
        have f2 := frH_tr f a3
        exact h I' J' a1 (fun c k h1 h2 => f2.1 c k h1 h2) f2.2
      | ok p =>
        rw [hp] at h
        intro I' J' A' R' f10 a3
        refine br_f (by decide) ?_
        have f2 := frH_tr f a3
        obtain ⟨x, x1, x2, x3⟩ := pLine_adv o R.2.2.2.1 hp
        refine M_readEnd hM R' (fun ee I2 J2 R2 g2 => ?_) (fun ee I2 a1 a2 a3 => ?_)
        · refine br_f (by decide) ?_
          simp only [if_pos ee] at h
          rw [nI_1]
          have adv := (tok_adv (tp := tp) (lm := lm) x2).2
          have e4 := (eE_4 ee).1
          have n1 := nx_to o R'.2.2.2.1
          have hx : x.2.2.1 < p.2.2.2.1 := by rw [x3]; exact adv (by have : (nxT tp sz lm x).1 = 4 := by rw [← x3]; exact e4
                                                                     unfold nxT at this; omega)
          exact ih p.1 _ (c + 1) I2 J2 (by omega) R2 (rH_R A' (frR_go g2)) (wH_line w0 hp) (frH_tr f2 (frH_go g2)) (by rw [g2.1 91 10 (by omega), f10]; exact hfl) h
        · refine br_t rfl ?_
          simp only [if_neg ee] at h
          rw [a2]
          have f3 := frH_tr f2 (frH_bad a3)
          exact h I2 J' a1 (fun c k h1 h2 => f3.1 c k h1 h2) f3.2
end ModHouse7
