def frQ (I I' : sI) (J J' : sJ) : Prop := (∀ c k, ¬ (c = 91 ∧ ((5 ≤ k ∧ k ≤ 11) ∨ k = 13)) → I' c k = I c k) ∧ ∀ c k, ¬ (c = 91 ∧ k = 12) → J' c k = J c k
def frK (I I' : sI) (J J' : sJ) : Prop := (∀ c k, c ≠ 113 → ¬ (c = 91 ∧ ((5 ≤ k ∧ k ≤ 11) ∨ k = 13)) → I' c k = I c k) ∧ ∀ c k, ¬ (c = 91 ∧ k = 12) → J' c k = J c k
theorem frQ_rf (I : sI) (J : sJ) : frQ I I J J := ⟨fun _ _ _ => rfl, fun _ _ _ => rfl⟩
theorem frQ_tr {I I' I2 : sI} {J J' J2 : sJ} (h : frQ I I' J J') (h2 : frQ I' I2 J' J2) : frQ I I2 J J2 := ⟨fun c k a => (h2.1 c k a).trans (h.1 c k a), fun c k a => (h2.2 c k a).trans (h.2 c k a)⟩
theorem frQ_R {I I' : sI} {J J' : sJ} (h : frR I I' J J') : frQ I I' J J' := ⟨fun c k a => h.1 c k (by omega), h.2⟩
theorem frQ_go {I I' : sI} {J J' : sJ} (h : frGo I I' J J') : frQ I I' J J' := frQ_R (frR_go h)
theorem frQ_bad {I I' : sI} {J : sJ} (h : frBad I I') : frQ I I' J J := ⟨fun c k a => h c k (by omega), fun _ _ _ => rfl⟩
theorem frK_Q {I I' : sI} {J J' : sJ} (h : frQ I I' J J') : frK I I' J J' := ⟨fun c k _ a => h.1 c k a, h.2⟩
theorem frK_rf (I : sI) (J : sJ) : frK I I J J := frK_Q (frQ_rf I J)
theorem frK_tr {I I' I2 : sI} {J J' J2 : sJ} (h : frK I I' J J') (h2 : frK I' I2 J' J2) : frK I I2 J J2 := ⟨fun c k a b => (h2.1 c k a b).trans (h.1 c k a b), fun c k a => (h2.2 c k a).trans (h.2 c k a)⟩
section ModBook2
variable {G : gG} {d : Nat} {I I0 : sI} {J J0 : sJ} {P : sP} {K : sK} {n : Nat} {F : Int32 → sI → sJ → Prop} {FV : sI → sJ → Prop} {sz lm : Nat} {tp : Nat → Nat} {t : tokT} {hd : Nat → Nat} {nm : Nat → List Nat}
/-- a scale's name, or a number, is told -/
def qPost (I0 : sI) (J0 : sJ) (sz lm : Nat) (tp : Nat → Nat) (F : Int32 → sI → sJ → Prop) (r : pE (Nat × tokT)) : Prop := match r with
  | .error e => ∀ I' J', I' 91 10 = nI e.1 → I' 91 11 = nI e.2 → frQ I0 I' J0 J' → F 0 I' J'
  | .ok p => ∀ I' J', rP I' J' sz lm tp p.2 → I' 91 13 = nI p.1 → frR I0 I' J0 J' → F 1 I' J'
theorem M_readScaleName (hM : shM P K) (R : rP I J sz lm tp t) (e0 : I 93 0 = nI (hd 0)) (h5 : hd 0 ≤ 5) (N : rNm J hd nm) (h : qPost I J sz lm tp F (pSc (nxT tp sz lm) hd nm t)) : ckI G (d + 3) mX12_readScaleName [.ref 91] I J P K n F := by
  refine bX12_readScaleName_0 hM ?_
  unfold pSc at h
  refine M_isName hM R.2.1 R.2.2 (b01n (fun en => ?_) (fun en => ?_))
  · rw [if_pos en] at h
    exact M_bad 1 hM R.2.1 R.2.2 (fun I' a1 a2 a3 => ⟨Or.inl rfl, h I' J a1 a2 (frQ_bad a3)⟩)
  · rw [if_neg (by rw [en]; decide)] at h
    have k2 := isN_2 en
    have ow := R.2.2.2.2.2.1 k2
    have ej : J 91 12 = lN (vB 27 t.2.2.2.2 0) := R.2.1.2.2.2.2.2 k2
    rw [ej, e0]
    refine M_findIn (a := 98) (len := 5) (nm := nm) (shM_K98 hM) h5 (by decide) ow N ?_
    cases hf : fndN nm t.2.2.2.2 (hd 0) 0 with
    | none =>
      rw [hf] at h
      refine br_t rfl ?_
      have R2 := rP_13 R (oN none)
      exact M_bad 3 hM R2.2.1 R2.2.2 (fun I' a1 a2 a3 => ⟨Or.inl rfl, h I' J a1 a2 (frQ_tr (I' := u2 I 91 13 (oN none)) ⟨fun c k a => by simp only [u2]; rw [if_neg (by omega)], fun _ _ _ => rfl⟩ (frQ_bad a3))⟩)
    | some s =>
      rw [hf] at h
      have hs := (fndN_lt hf).2.1
      refine br_f (nI_nm1 (by omega)) ?_
      have R2 := rP_13 R (oN (some s))
      refine M_next' hM R2 (fun I' J' R3 g => ?_)
      refine h I' J' R3 ?_ ⟨fun c k a => ?_, g.2⟩
      · rw [g.1 91 13 (by omega), u2_s]; rfl
      · rw [g.1 c k (by omega)]; simp only [u2]; rw [if_neg (by omega)]
theorem M_readNumQ {a b : Nat} (ha : a < 2147483648) (hb : b < 2147483648) (hM : shM P K) (R : rP I J sz lm tp t) (h : qPost I J sz lm tp F (rdN (nxT tp sz lm) t a b)) : ckI G (d + 2) mX12_readNumber [.ref 91, .int (nI a), .int (nI b)] I J P K n F := by
  refine M_readNumber ha hb hM R (fun e I' J' R' e13 f => ?_) (fun e I' a1 a2 a3 => ?_)
  · rw [rdN_ok e] at h
    exact h I' J' R' e13 f
  · rw [rdN_bad e] at h
    exact h I' J a1 a2 (frQ_bad a3)
/-- told, and kept in the line at c -/
def kPost (I0 : sI) (J0 : sJ) (sz lm : Nat) (tp : Nat → Nat) (c : Nat) (F : Int32 → sI → sJ → Prop) (r : pE (Nat × tokT)) : Prop := match r with
  | .error e => ∀ I' J', I' 91 10 = nI e.1 → I' 91 11 = nI e.2 → frK I0 I' J0 J' → F 0 I' J'
  | .ok p => ∀ I' J', rP I' J' sz lm tp p.2 → I' 113 c = nI p.1 → (∀ k, k ≠ c → I' 113 k = I0 113 k) → I' 91 10 = I0 91 10 → frK I0 I' J0 J' → F 1 I' J'
theorem kPost_q {c : Nat} (hc : c < 240) (hM : shM P K) {r : pE (Nat × tokT)} (h : kPost I J sz lm tp c F r) : qPost I J sz lm tp (fun v I' J' => ckI G d mX12_keep [.ref 91, .int (nI c), .int v] I' J' P K n F) r := by
  cases r with
  | error e =>
    intro I' J' a1 a2 a3
    exact bX12_keep_0 hM _ _ (br_t rfl ⟨Or.inl rfl, h I' J' a1 a2 (frK_Q a3)⟩)
  | ok p =>
    intro I' J' R' e13 f
    refine bX12_keep_0 hM _ _ (br_f (by decide) ⟨nI_inN hc (by decide), Or.inr rfl, ?_⟩)
    rw [nI_ck (by omega), e13]
    refine h _ J' (rP_of R' (fun k _ _ => u2_a _ _ _ _ (by decide)) (fun j => u2_a _ _ _ _ (by decide)) rfl) (u2_s _ _ _ _) (fun k hk => ?_) ?_ ⟨fun x k g1 g2 => ?_, f.2⟩
    · rw [u2_k _ _ _ _ hk]; exact f.1 113 k (by omega)
    · rw [u2_a _ _ _ _ (by decide)]; exact f.1 91 10 (by omega)
    · rw [u2_a _ _ _ _ g1]; exact f.1 x k (by omega)
/-- a cask: its scale at c, its number behind it -/
def cPost (I0 : sI) (J0 : sJ) (sz lm : Nat) (tp : Nat → Nat) (c : Nat) (F : Int32 → sI → sJ → Prop) (r : pE ((Nat × Nat) × tokT)) : Prop := match r with
  | .error e => ∀ I' J', I' 91 10 = nI e.1 → I' 91 11 = nI e.2 → frK I0 I' J0 J' → F 0 I' J'
  | .ok p => ∀ I' J', rP I' J' sz lm tp p.2 → I' 113 c = nI p.1.1 → I' 113 (c + 1) = nI p.1.2 → (∀ k, k ≠ c → k ≠ c + 1 → I' 113 k = I0 113 k) → I' 91 10 = I0 91 10 → frK I0 I' J0 J' → F 1 I' J'
theorem M_readCask {c : Nat} (hc : c + 1 < 240) (hM : shM P K) (R : rP I J sz lm tp t) (e0 : I 93 0 = nI (hd 0)) (h5 : hd 0 ≤ 5) (N : rNm J hd nm) (h : cPost I J sz lm tp c F (pCk (nxT tp sz lm) hd nm t)) : ckI G (d + 4) mX12_readCask [.ref 91, .int (nI c)] I J P K n F := by
  refine bX12_readCask_0 hM _ (M_readScaleName hM R e0 h5 N (kPost_q (by omega) hM ?_))
  rw [nI_1]
  unfold pCk at h
  cases hp : pSc (nxT tp sz lm) hd nm t with
  | error e =>
    rw [hp] at h
    exact fun I' J' a1 a2 a3 => br_t rfl (h I' J' a1 a2 a3)
  | ok p =>
    rw [hp] at h
    intro I' J' R' g1 g2 g3 g4
    refine br_f (by decide) (M_readNumQ (a := 0) (b := 3) (by decide) (by decide) hM R' (kPost_q (c := c + 1) (by omega) hM ?_))
    have h' := h
    cases hq : rdN (nxT tp sz lm) p.2 0 3 with
    | error e =>
      simp only [hq] at h'
      exact fun I2 J2 a1 a2 a3 => br_t rfl (h' I2 J2 a1 a2 (frK_tr g4 a3))
    | ok q =>
      simp only [hq] at h'
      intro I2 J2 R2 k1 k2 k3 k4
      refine br_f (by decide) (h' I2 J2 R2 ?_ k1 (fun k h1 h2 => ?_) ?_ (frK_tr g4 k4))
      · rw [k2 c (by omega)]; exact g1
      · rw [k2 k h2, g2 k h1]
      · rw [k3, g3]
/-- line l of the row is b -/
def rLn (I : sI) (l : Nat) (b : bL) : Prop := I 113 (6 * l) = nI b.1 ∧ (b.1 = 0 ∨ b.1 = 1 ∨ b.1 = 3 → I 113 (6 * l + 1) = nI b.2.1) ∧ (b.1 = 0 ∨ b.1 = 3 → I 113 (6 * l + 2) = nI b.2.2.1 ∧ I 113 (6 * l + 5) = nI b.2.2.2.2.2) ∧ (b.1 = 3 → I 113 (6 * l + 3) = nI b.2.2.2.1 ∧ I 113 (6 * l + 4) = nI b.2.2.2.2.1) ∧ (b.1 = 4 → I 113 (6 * l + 1) = nI b.2.2.2.2.2)
def lPost (I0 : sI) (J0 : sJ) (sz lm : Nat) (tp : Nat → Nat) (l : Nat) (F : Int32 → sI → sJ → Prop) (r : pE (bL × tokT)) : Prop := match r with
  | .error e => ∀ I' J', I' 91 10 = nI e.1 → I' 91 11 = nI e.2 → frK I0 I' J0 J' → F 0 I' J'
  | .ok p => ∀ I' J', rP I' J' sz lm tp p.2 → rLn I' l p.1 → (∀ k, k < 6 * l → I' 113 k = I0 113 k) → I' 91 10 = I0 91 10 → frK I0 I' J0 J' → F 1 I' J'
theorem M_endB {l : Nat} {b : bL} (hM : shM P K) (R : rP I J sz lm tp t) (L : rLn I l b) (g : ∀ k, k < 6 * l → I 113 k = I0 113 k) (f10 : I 91 10 = I0 91 10) (f : frK I0 I J0 J) (h : lPost I0 J0 sz lm tp l F (if eE t = 0 then .ok (b, nxT tp sz lm t) else fl t 1)) : ckI G (d + 2) mX12_readEnd [.ref 91] I J P K n (fun v I' J' => F v I' J') := by
  refine M_readEnd hM R (fun e I' J' R' g' => ?_) (fun e I' a1 a2 a3 => ?_)
  · rw [if_pos e] at h
    have o : ∀ k, I' 113 k = I 113 k := fun k => g'.1 113 k (by omega)
    refine h I' J' R' ?_ (fun k hk => (o k).trans (g k hk)) ((g'.1 91 10 (by omega)).trans f10) (frK_tr f (frK_Q (frQ_go g')))
    unfold rLn at L ⊢
    simp only [o]
    exact L
  · rw [if_neg e] at h
    exact h I' J a1 a2 (frK_tr f (frK_Q (frQ_bad a3)))
end ModBook2
