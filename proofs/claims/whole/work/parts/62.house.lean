/-! the reference: the lines of a house -/
abbrev hS := (Nat → Nat) × (Nat → List Nat) × Bool × Bool × Bool × Bool
abbrev pE := Except (Nat × Nat)
def fl {α : Type} (t : tokT) (k : Nat) : pE α := .error (fau t k, t.2.1)
def rdN (nx : tokT → tokT) (t : tokT) (a b : Nat) : pE (Nat × tokT) := if eN t a b = 0 then .ok (t.2.2.2.1, nx t) else fl t (eN t a b)
def rH (I : sI) (J : sJ) (H : hS) : Prop := (∀ k, k < 815 → I 94 k = nI (H.1 k)) ∧ (∀ s, s < H.1 0 → J 99 s = lN (vB 27 (H.2.1 s) 0) ∧ okW (H.2.1 s)) ∧ I 91 23 = b01 H.2.2.1 ∧ I 91 24 = b01 H.2.2.2.1 ∧ I 91 25 = b01 H.2.2.2.2.1 ∧ I 91 26 = b01 H.2.2.2.2.2
/-- what reading a house's line may change -/
def frH (I I' : sI) (J J' : sJ) : Prop := (∀ c k, c ≠ 94 → ¬ (c = 91 ∧ ((5 ≤ k ∧ k ≤ 11) ∨ k = 13 ∨ (23 ≤ k ∧ k ≤ 26))) → I' c k = I c k) ∧ ∀ c k, c ≠ 99 → ¬ (c = 91 ∧ k = 12) → J' c k = J c k
theorem frH_rf (I : sI) (J : sJ) : frH I I J J := ⟨fun _ _ _ _ => rfl, fun _ _ _ _ => rfl⟩
theorem frH_tr {I I' I2 : sI} {J J' J2 : sJ} (h : frH I I' J J') (h2 : frH I' I2 J' J2) : frH I I2 J J2 := ⟨fun c k a b => (h2.1 c k a b).trans (h.1 c k a b), fun c k a b => (h2.2 c k a b).trans (h.2 c k a b)⟩
theorem frH_R {I I' : sI} {J J' : sJ} (h : frR I I' J J') : frH I I' J J' := ⟨fun c k _ a => h.1 c k (by omega), fun c k _ a => h.2 c k a⟩
theorem frH_go {I I' : sI} {J J' : sJ} (h : frGo I I' J J') : frH I I' J J' := frH_R (frR_go h)
theorem frH_bad {I I' : sI} {J : sJ} (h : frBad I I') : frH I I' J J := ⟨fun c k _ a => h c k (by omega), fun _ _ _ _ => rfl⟩
def pPost (I0 : sI) (J0 : sJ) (sz lm : Nat) (tp : Nat → Nat) (F : Int32 → sI → sJ → Prop) (r : pE (hS × tokT)) : Prop := match r with
  | .error e => ∀ I' J', I' 91 10 = nI e.1 → I' 91 11 = nI e.2 → frH I0 I' J0 J' → F 0 I' J'
  | .ok p => ∀ I' J', rH I' J' p.1 → rP I' J' sz lm tp p.2 → I' 91 10 = I0 91 10 → frH I0 I' J0 J' → F 1 I' J'
theorem rH_R {I I' : sI} {J J' : sJ} {H : hS} (h : rH I J H) (f : frR I I' J J') : rH I' J' H := ⟨fun k hk => (f.1 94 k (by omega)).trans (h.1 k hk), fun s hs => ⟨(f.2 99 s (by omega)).trans (h.2.1 s hs).1, (h.2.1 s hs).2⟩, (f.1 91 23 (by omega)).trans h.2.2.1, (f.1 91 24 (by omega)).trans h.2.2.2.1, (f.1 91 25 (by omega)).trans h.2.2.2.2.1, (f.1 91 26 (by omega)).trans h.2.2.2.2.2⟩
def pYear (nx : tokT → tokT) (H : hS) (t : tokT) : pE (hS × tokT) := if H.2.2.1 || H.2.2.2.2.2 then fl t 3 else match rdN nx (nx t) 0 29 with
  | .error e => .error e
  | .ok p => .ok ((up H.1 4 p.1, H.2.1, true, H.2.2.2.1, H.2.2.2.2.1, H.2.2.2.2.2), p.2)
def pAngels (nx : tokT → tokT) (H : hS) (t : tokT) : pE (hS × tokT) := if H.2.2.2.1 then fl t 3 else match rdN nx (nx t) 0 9 with
  | .error e => .error e
  | .ok p => .ok ((up H.1 2 p.1, H.2.1, H.2.2.1, true, H.2.2.2.2.1, H.2.2.2.2.2), p.2)
def pMost (nx : tokT → tokT) (H : hS) (t : tokT) : pE (hS × tokT) := if H.2.2.2.2.1 then fl t 3 else match rdN nx (nx t) 1 400 with
  | .error e => .error e
  | .ok p => .ok ((up H.1 3 p.1, H.2.1, H.2.2.1, H.2.2.2.1, true, H.2.2.2.2.2), p.2)
section ModHouse
variable {G : gG} {d : Nat} {I : sI} {J : sJ} {P : sP} {K : sK} {n : Nat} {F : Int32 → sI → sJ → Prop} {FV : sI → sJ → Prop} {sz lm : Nat} {tp : Nat → Nat} {t : tokT} {H : hS}
/-- a number is read and put -/
theorem M_putN {a b c : Nat} (ha : a < 2147483648) (hb : b < 2147483648) (hc : c < 815) (hM : shM P K) (R : rP I J sz lm tp t) (hok : eN t a b = 0 → ∀ I' J', rP I' J' sz lm tp (nxT tp sz lm t) → I' 94 c = nI t.2.2.2.1 → (∀ k, k ≠ c → I' 94 k = I 94 k) → (∀ e k, e ≠ 94 → ¬ (e = 91 ∧ ((5 ≤ k ∧ k ≤ 9) ∨ k = 13)) → I' e k = I e k) → (∀ e k, ¬ (e = 91 ∧ k = 12) → J' e k = J e k) → F 1 I' J') (hbad : eN t a b ≠ 0 → ∀ I', I' 91 10 = nI (fau t (eN t a b)) → I' 91 11 = nI t.2.1 → frBad I I' → F 0 I' J) : ckI G (d + 2) mX12_readNumber [.ref 91, .int (nI a), .int (nI b)] I J P K n (fun v I' J' => ckI G (d + 2) mX12_put [.ref 91, .int (nI c), .int v] I' J' P K n F) := by
  refine M_readNumber ha hb hM R (fun e I' J' R' e13 f => ?_) (fun e I' a1 a2 a3 => ?_)
  · refine bX12_put_0 hM _ _ (br_f (by decide) ⟨nI_inN hc (by decide), Or.inr rfl, ?_⟩)
    rw [nI_ck (by omega), e13]
    refine hok e _ J' ?_ (u2_s _ _ _ _) (fun k hk => ?_) (fun x k g1 g2 => ?_) f.2
    · obtain ⟨S, T, o⟩ := R'
      refine ⟨⟨(u2_a _ _ _ _ (by decide)).trans S.1, (u2_a _ _ _ _ (by decide)).trans S.2.1, S.2.2.1, S.2.2.2.1, fun j hj => ⟨(u2_a _ _ _ _ (by decide)).trans (S.2.2.2.2 j hj).1, (S.2.2.2.2 j hj).2⟩⟩, ⟨(u2_a _ _ _ _ (by decide)).trans T.1, (u2_a _ _ _ _ (by decide)).trans T.2.1, (u2_a _ _ _ _ (by decide)).trans T.2.2.1, fun a => (u2_a _ _ _ _ (by decide)).trans (T.2.2.2.1 a), fun a => (u2_a _ _ _ _ (by decide)).trans (T.2.2.2.2.1 a), T.2.2.2.2.2⟩, o⟩
    · rw [u2_k _ _ _ _ hk]; exact f.1 94 k (by omega)
    · rw [u2_a _ _ _ _ g1]; exact f.1 x k (by omega)
  · exact bX12_put_0 hM _ _ (br_t rfl ⟨Or.inl rfl, hbad e I' a1 a2 a3⟩)
end ModHouse
