/-! the class: the lines of a house -/
def hvH (h : Nat → Nat) (k : Nat) : Nat := sm (fun v => h (15 + 40 * k + v)) 40
def rK6 (I : sI) (c : Nat) (h : Nat → Nat) : Prop := I c 2 = 0 ∧ I c 3 = 0 ∧ (∀ k v, k < 20 → v < 40 → I (c + 2 + k) v = nI (h (15 + 40 * k + v))) ∧ (∀ k, k < 20 → I (c + 22) k = nI (hvH h k) ∧ I (c + 23) k = 0) ∧ ∀ v, v < 40 → I (c + 24) v = 0
def rG6 (I : sI) (a : Nat) (H : hS) : Prop := I a 3 = b01 H.2.2.1 ∧ I a 4 = b01 H.2.2.2.1 ∧ I a 5 = b01 H.2.2.2.2.1 ∧ I a 6 = b01 H.2.2.2.2.2
def rH6 (I : sI) (J : sJ) (a c l : Nat) (H : hS) : Prop := rL I l H.1 ∧ rLN J l H.1 H.2.1 ∧ rK6 I c H.1 ∧ rG6 I a H
/-- a house text, a cellar, a layout: apart -/
def ap6 (a c l : Nat) : Prop := 34 < a ∧ 34 < c ∧ 34 < l ∧ (l + 5 < c ∨ c + 24 < l) ∧ (a < c ∨ c + 24 < a) ∧ (a < l ∨ l + 5 < a)
def frHs (a c l : Nat) (I I' : sI) (J J' : sJ) : Prop := (∀ x k, x ≠ 2 → x ≠ a → ¬ (l ≤ x ∧ x ≤ l + 5) → ¬ (c ≤ x ∧ x ≤ c + 24) → I' x k = I x k) ∧ ∀ x k, ¬ (x = 2 ∧ k = 7) → x ≠ l + 1 → J' x k = J x k
def kp6 (a c l : Nat) (I I' : sI) (J J' : sJ) : Prop := I' 2 9 = I 2 9 ∧ I' 2 10 = I 2 10 ∧ I' a 7 = I a 7 ∧ frHs a c l I I' J J'
def hP6 (a c l : Nat) (I0 : sI) (J0 : sJ) (sz lm : Nat) (tp : Nat → Nat) (F : Int32 → sI → sJ → Prop) (r : pE (hS × tokT)) : Prop := match r with
  | .error e => ∀ I' J', I' 2 9 = nI e.1 → I' 2 10 = nI e.2 → frHs a c l I0 I' J0 J' → F 0 I' J'
  | .ok p => ∀ I' J', rH6 I' J' a c l p.1 → rP6 I' J' sz lm tp p.2 → kp6 a c l I0 I' J0 J' → F 1 I' J'
theorem kp6_rf (a c l : Nat) (I : sI) (J : sJ) : kp6 a c l I I J J := ⟨rfl, rfl, rfl, fun _ _ _ _ _ _ => rfl, fun _ _ _ _ => rfl⟩
theorem kp6_9 {a c l : Nat} {I0 I I' : sI} {J0 J J' : sJ} (p : ap6 a c l) (h : kp6 a c l I0 I J0 J) (f : fr9 I I' J J') : kp6 a c l I0 I' J0 J' := by
  obtain ⟨p1, p2, p3, p4, p5, p6⟩ := p
  exact ⟨(f.1 2 9 (by omega)).trans h.1, (f.1 2 10 (by omega)).trans h.2.1, (f.1 a 7 (by omega)).trans h.2.2.1, fun x k h1 h2 h3 h4 => (f.1 x k (by omega)).trans (h.2.2.2.1 x k h1 h2 h3 h4), fun x k h1 h2 => (f.2 x k h1).trans (h.2.2.2.2 x k h1 h2)⟩
theorem kp6_F {a c l : Nat} {I0 I I' : sI} {J0 J : sJ} (h : kp6 a c l I0 I J0 J) (f : frF I I') : frHs a c l I0 I' J0 J := ⟨fun x k h1 h2 h3 h4 => (f x k (by omega)).trans (h.2.2.2.1 x k h1 h2 h3 h4), h.2.2.2.2⟩
theorem kp6_u {a c l x k : Nat} {v : Int32} {I0 I : sI} {J0 J : sJ} (p : ap6 a c l) (h : kp6 a c l I0 I J0 J) (hx : (x = a ∧ k ≠ 7) ∨ (l ≤ x ∧ x ≤ l + 5) ∨ (c ≤ x ∧ x ≤ c + 24)) : kp6 a c l I0 (u2 I x k v) J0 J := by
  obtain ⟨p1, p2, p3, p4, p5, p6⟩ := p
  refine ⟨(u2_a _ _ _ _ (by omega)).trans h.1, (u2_a _ _ _ _ (by omega)).trans h.2.1, ?_, fun y j h1 h2 h3 h4 => (u2_a _ _ _ _ (by omega)).trans (h.2.2.2.1 y j h1 h2 h3 h4), h.2.2.2.2⟩
  simp only [u2]
  rw [if_neg (by omega)]
  exact h.2.2.1
theorem kp6_j {a c l k : Nat} {v : Int64} {I0 I : sI} {J0 J : sJ} (h : kp6 a c l I0 I J0 J) : kp6 a c l I0 I J0 (u2 J (l + 1) k v) := ⟨h.1, h.2.1, h.2.2.1, h.2.2.2.1, fun x j h1 h2 => (u2_a _ _ _ _ h2).trans (h.2.2.2.2 x j h1 h2)⟩
theorem rP6_o {I : sI} {J : sJ} {sz lm : Nat} {tp : Nat → Nat} {t : tokT} {x k : Nat} (R : rP6 I J sz lm tp t) (v : Int32) (h : 2 < x) : rP6 (u2 I x k v) J sz lm tp t := by
  obtain ⟨S, T, o⟩ := R
  have e : ∀ c j, c ≤ 2 → u2 I x k v c j = I c j := fun c j a => u2_a _ _ _ _ (by omega)
  refine ⟨⟨(e 2 1 (by omega)).trans S.1, (e 2 2 (by omega)).trans S.2.1, S.2.2.1, S.2.2.2.1, fun j hj => ⟨(e 1 j (by omega)).trans (S.2.2.2.2 j hj).1, (S.2.2.2.2 j hj).2⟩⟩, ⟨(e 2 3 (by omega)).trans T.1, (e 2 4 (by omega)).trans T.2.1, (e 2 5 (by omega)).trans T.2.2.1, fun a => (e 2 6 (by omega)).trans (T.2.2.2.1 a), T.2.2.2.2.1, (e 2 8 (by omega)).trans T.2.2.2.2.2⟩, o⟩
theorem rP6_j {I : sI} {J : sJ} {sz lm : Nat} {tp : Nat → Nat} {t : tokT} {x k : Nat} (R : rP6 I J sz lm tp t) (v : Int64) (h : 2 < x) : rP6 I (u2 J x k v) sz lm tp t :=
  ⟨R.1, ⟨R.2.1.1, R.2.1.2.1, R.2.1.2.2.1, R.2.1.2.2.2.1, fun a => (u2_a _ _ _ _ (by omega)).trans (R.2.1.2.2.2.2.1 a), R.2.1.2.2.2.2.2⟩, R.2.2⟩
/-- only the reader has changed -/
theorem rH6_9 {a c l : Nat} {I I' : sI} {J J' : sJ} {H : hS} (p : ap6 a c l) (A : rH6 I J a c l H) (h : ∀ x k, x ≠ 2 → I' x k = I x k) (hJ : ∀ x k, x ≠ 2 → J' x k = J x k) : rH6 I' J' a c l H := by
  obtain ⟨p1, p2, p3, p4, p5, p6⟩ := p
  obtain ⟨⟨l1, l2, l3⟩, N, ⟨k1, k2, k3, k4, k5⟩, g1, g2, g3, g4⟩ := A
  refine ⟨⟨fun k hk => (h _ _ (by omega)).trans (l1 k hk), fun s hs => ⟨(h _ _ (by omega)).trans (l2 s hs).1, (h _ _ (by omega)).trans (l2 s hs).2.1, (h _ _ (by omega)).trans (l2 s hs).2.2⟩, fun k hk => (h _ _ (by omega)).trans (l3 k hk)⟩, fun s hs => ⟨(hJ _ _ (by omega)).trans (N s hs).1, (N s hs).2⟩, ⟨(h _ _ (by omega)).trans k1, (h _ _ (by omega)).trans k2, fun k v hk hv => (h _ _ (by omega)).trans (k3 k v hk hv), fun k hk => ⟨(h _ _ (by omega)).trans (k4 k hk).1, (h _ _ (by omega)).trans (k4 k hk).2⟩, fun v hv => (h _ _ (by omega)).trans (k5 v hv)⟩, (h _ _ (by omega)).trans g1, (h _ _ (by omega)).trans g2, (h _ _ (by omega)).trans g3, (h _ _ (by omega)).trans g4⟩
theorem rH6_f9 {a c l : Nat} {I I' : sI} {J J' : sJ} {H : hS} (p : ap6 a c l) (A : rH6 I J a c l H) (f : fr9 I I' J J') : rH6 I' J' a c l H := rH6_9 p A (fun x k hx => f.1 x k (by omega)) (fun x k hx => f.2 x k (by omega))
/-- a flag is set -/
theorem rH6_g {a c l j : Nat} {I : sI} {J : sJ} {H H1 : hS} {v : Int32} (p : ap6 a c l) (A : rH6 I J a c l H) (e1 : H1.1 = H.1) (e2 : H1.2.1 = H.2.1) (g : rG6 (u2 I a j v) a H1) : rH6 (u2 I a j v) J a c l H1 := by
  obtain ⟨p1, p2, p3, p4, p5, p6⟩ := p
  obtain ⟨⟨l1, l2, l3⟩, N, ⟨k1, k2, k3, k4, k5⟩, -⟩ := A
  have h : ∀ x k, x ≠ a → u2 I a j v x k = I x k := fun x k hx => u2_a _ _ _ _ hx
  refine ⟨?_, by rw [e1, e2]; exact N, ?_, g⟩
  · rw [e1]
    exact ⟨fun k hk => (h _ _ (by omega)).trans (l1 k hk), fun s hs => by have := hs; exact ⟨(h _ _ (by omega)).trans (l2 s hs).1, (h _ _ (by omega)).trans (l2 s hs).2.1, (h _ _ (by omega)).trans (l2 s hs).2.2⟩, fun k hk => (h _ _ (by omega)).trans (l3 k hk)⟩
  · rw [e1]
    exact ⟨(h _ _ (by omega)).trans k1, (h _ _ (by omega)).trans k2, fun k w hk hw => (h _ _ (by omega)).trans (k3 k w hk hw), fun k hk => ⟨(h _ _ (by omega)).trans (k4 k hk).1, (h _ _ (by omega)).trans (k4 k hk).2⟩, fun w hw => (h _ _ (by omega)).trans (k5 w hw)⟩
/-- angels, most or first year is put -/
theorem rH6_n {a c l j x : Nat} {I : sI} {J : sJ} {H : hS} (p : ap6 a c l) (A : rH6 I J a c l H) (hj : 2 ≤ j ∧ j ≤ 4) : rH6 (u2 I l j (nI x)) J a c l (up H.1 j x, H.2) := by
  obtain ⟨p1, p2, p3, p4, p5, p6⟩ := p
  obtain ⟨⟨l1, l2, l3⟩, N, ⟨k1, k2, k3, k4, k5⟩, g1, g2, g3, g4⟩ := A
  have h : ∀ y k, y ≠ l → u2 I l j (nI x) y k = I y k := fun y k hx => u2_a _ _ _ _ hx
  have o : ∀ i, i < 2 ∨ 4 < i → up H.1 j x i = H.1 i := fun i hi => up_n _ _ (by omega)
  have o0 : up H.1 j x 0 = H.1 0 := o 0 (by omega)
  have o1 : up H.1 j x 1 = H.1 1 := o 1 (by omega)
  refine ⟨⟨fun k hk => ?_, fun s hs => ?_, fun k hk => ?_⟩, fun s hs => ?_, ⟨(h _ _ (by omega)).trans k1, (h _ _ (by omega)).trans k2, fun k w hk hw => ?_, fun k hk => ?_, fun w hw => (h _ _ (by omega)).trans (k5 w hw)⟩, (h _ _ (by omega)).trans g1, (h _ _ (by omega)).trans g2, (h _ _ (by omega)).trans g3, (h _ _ (by omega)).trans g4⟩
  · show u2 I l j (nI x) l k = nI (up H.1 j x k)
    by_cases e : k = j
    · subst e; rw [u2_s, up_s]
    · rw [u2_k _ _ _ _ e, up_n _ _ e]; exact l1 k hk
  · have hs : s < up H.1 j x 0 := hs
    rw [o0] at hs
    refine ⟨?_, ?_, ?_⟩
    · show _ = nI (up H.1 j x (5 + s))
      rw [o _ (by omega), h _ _ (by omega)]; exact (l2 s hs).1
    · show _ = nI (up H.1 j x (10 + s))
      rw [o _ (by omega), h _ _ (by omega)]; exact (l2 s hs).2.1
    · show _ = nI (fst' (up H.1 j x) s)
      rw [fst_congr (h := H.1) (fun k _ => o _ (by omega)), h _ _ (by omega)]; exact (l2 s hs).2.2
  · have hk : k < up H.1 j x 1 := hk
    rw [o1] at hk
    show _ = nI (sof (up H.1 j x) k)
    rw [sof_congr (h := H.1) (fun k _ => o _ (by omega)), h _ _ (by omega)]; exact l3 k hk
  · have hs : s < up H.1 j x 0 := hs
    rw [o0] at hs
    exact N s hs
  · show _ = nI (up H.1 j x _)
    rw [o _ (by omega), h _ _ (by omega)]; exact k3 k w hk hw
  · have e : hvH (up H.1 j x) k = hvH H.1 k := sm_congr (fun v _ => o _ (by omega))
    show _ = nI (hvH (up H.1 j x) k) ∧ _
    rw [e, h _ _ (by omega), h _ _ (by omega)]; exact k4 k hk
section Hs6
variable {G : gG} {d : Nat} {I I0 : sI} {J J0 : sJ} {P : sP} {K : sK} {n : Nat} {F : Int32 → sI → sJ → Prop} {FV : sI → sJ → Prop} {sz lm : Nat} {tp : Nat → Nat} {t : tokT} {H : hS} {a c l : Nat}
theorem C_badH {k : Nat} (hX : shX P K) (R : rP6 I J sz lm tp t) (kp : kp6 a c l I0 I J0 J) (hk : fau t k = k) (h : hP6 a c l I0 J0 sz lm tp F (fl t k)) : ckI G d mX6_fail [.ref 2, .int (nI k)] I J P K n (fun v I' J' => (v = 0 ∨ v = 1) ∧ F v I' J') :=
  C_failF hX R (fun I' g1 g2 g3 => h I' J (by rw [g1]; show _ = nI (fau t k); rw [hk]) g2 (kp6_F kp g3))
theorem C_numL {lo hi j : Nat} (hlo : lo < 2147483648) (hhi : hi < 2147483648) (hj : 2 ≤ j ∧ j ≤ 4) (hX : shX P K) (hP : P 2 0 = some 1) (p : ap6 a c l) (R : rP6 I J sz lm tp t) (A : rH6 I J a c l H) (kp : kp6 a c l I0 I J0 J) (h : hP6 a c l I0 J0 sz lm tp F (match rdN (nxT tp sz lm) (nxT tp sz lm t) lo hi with | .error e => .error e | .ok p => .ok ((up H.1 j p.1, H.2), p.2))) : ckV G (d + 6) mX6_next [.ref 2] I J P K n (fun I3 J4 => ckI G (d + 6) mX6_takeNumber [.ref 2, .int (nI lo), .int (nI hi)] I3 J4 P K n (fun v I6 J7 => (v = 0 → F 0 I6 J7) ∧ (¬ v = 0 → F 1 (u2 I6 l j (I6 2 11)) J7))) := by
  refine C_nx (d := d + 1) hX hP R (fun I3 J4 R3 f3 => C_takeNumber hlo hhi hX hP R3 (fun e I' g1 g2 g3 => br_t rfl ?_) (fun e I' J' R4 g1 g2 => br_f (by decide) ?_))
  · rw [rdN_bad e] at h
    exact h I' J4 g1 g2 (kp6_F (kp6_9 p kp (fr9_6 f3)) g3)
  · rw [rdN_ok e] at h
    have f := fr9_tr (fr9_6 f3) g2
    rw [g1]
    have hl : 34 < l := p.2.2.1
    exact h _ _ (rH6_n p (rH6_f9 p A f) hj) (rP6_o R4 _ (by omega)) (kp6_u p (kp6_9 p kp f) (Or.inr (Or.inl (by omega))))
theorem fau_2 {t : tokT} {k : Nat} (h : t.1 = 2) : fau t k = k := by
  unfold fau
  rw [if_neg (by omega)]
theorem C_readYear (hX : shX P K) (hP : P 2 0 = some 1) (hH : shH P K a c l) (hC : shC P K c) (hL : shL P K l) (p : ap6 a c l) (R : rP6 I J sz lm tp t) (A : rH6 I J a c l H) (t2 : t.1 = 2) (h : hP6 a c l I J sz lm tp F (pYear (nxT tp sz lm) H t)) : ckI G (d + 7) mX4_readYear [.ref a] I J P K n F := by
  have ha := p.1
  refine bX4_readYear_0 hX _ hH hC hL ?_
  obtain ⟨h1, nm, f1, f2, f3, f4⟩ := H
  have g := A.2.2.2
  rw [g.1, g.2.2.2]
  unfold pYear at h
  cases f1 with
  | true => exact br_f (show ¬ b01 true = 0 by decide) (C_badH (k := 3) hX R (kp6_rf a c l I J) (fau_2 t2) h)
  | false =>
    refine br_t rfl ?_
    cases f4 with
    | true => exact br_f (show ¬ b01 true = 0 by decide) (C_badH (k := 3) hX R (kp6_rf a c l I J) (fau_2 t2) h)
    | false =>
      refine br_t rfl (C_numL (lo := 0) (hi := 29) (j := 4) (H := (h1, nm, true, f2, f3, false)) (by decide) (by decide) (by decide) hX hP p (rP6_o R _ (by omega)) (rH6_g p A rfl rfl ⟨u2_s _ _ _ _, ?_, ?_, ?_⟩) (kp6_u p (kp6_rf a c l I J) (Or.inl ⟨rfl, by decide⟩)) h)
      · rw [u2_k _ _ _ _ (by decide)]; exact g.2.1
      · rw [u2_k _ _ _ _ (by decide)]; exact g.2.2.1
      · rw [u2_k _ _ _ _ (by decide)]; exact g.2.2.2
theorem C_readAngels (hX : shX P K) (hP : P 2 0 = some 1) (hH : shH P K a c l) (hC : shC P K c) (hL : shL P K l) (p : ap6 a c l) (R : rP6 I J sz lm tp t) (A : rH6 I J a c l H) (t2 : t.1 = 2) (h : hP6 a c l I J sz lm tp F (pAngels (nxT tp sz lm) H t)) : ckI G (d + 7) mX4_readAngels [.ref a] I J P K n F := by
  have ha := p.1
  refine bX4_readAngels_0 hX _ hH hC hL ?_
  obtain ⟨h1, nm, f1, f2, f3, f4⟩ := H
  have g := A.2.2.2
  rw [g.2.1]
  unfold pAngels at h
  cases f2 with
  | true => exact br_f (show ¬ b01 true = 0 by decide) (C_badH (k := 3) hX R (kp6_rf a c l I J) (fau_2 t2) h)
  | false =>
    refine br_t rfl (C_numL (lo := 0) (hi := 9) (j := 2) (H := (h1, nm, f1, true, f3, f4)) (by decide) (by decide) (by decide) hX hP p (rP6_o R _ (by omega)) (rH6_g p A rfl rfl ⟨?_, u2_s _ _ _ _, ?_, ?_⟩) (kp6_u p (kp6_rf a c l I J) (Or.inl ⟨rfl, by decide⟩)) h)
    · rw [u2_k _ _ _ _ (by decide)]; exact g.1
    · rw [u2_k _ _ _ _ (by decide)]; exact g.2.2.1
    · rw [u2_k _ _ _ _ (by decide)]; exact g.2.2.2
theorem C_readMost (hX : shX P K) (hP : P 2 0 = some 1) (hH : shH P K a c l) (hC : shC P K c) (hL : shL P K l) (p : ap6 a c l) (R : rP6 I J sz lm tp t) (A : rH6 I J a c l H) (t2 : t.1 = 2) (h : hP6 a c l I J sz lm tp F (pMost (nxT tp sz lm) H t)) : ckI G (d + 7) mX4_readMost [.ref a] I J P K n F := by
  have ha := p.1
  refine bX4_readMost_0 hX _ hH hC hL ?_
  obtain ⟨h1, nm, f1, f2, f3, f4⟩ := H
  have g := A.2.2.2
  rw [g.2.2.1]
  unfold pMost at h
  cases f3 with
  | true => exact br_f (show ¬ b01 true = 0 by decide) (C_badH (k := 3) hX R (kp6_rf a c l I J) (fau_2 t2) h)
  | false =>
    refine br_t rfl (C_numL (lo := 1) (hi := 400) (j := 3) (H := (h1, nm, f1, f2, true, f4)) (by decide) (by decide) (by decide) hX hP p (rP6_o R _ (by omega)) (rH6_g p A rfl rfl ⟨?_, ?_, u2_s _ _ _ _, ?_⟩) (kp6_u p (kp6_rf a c l I J) (Or.inl ⟨rfl, by decide⟩)) h)
    · rw [u2_k _ _ _ _ (by decide)]; exact g.1
    · rw [u2_k _ _ _ _ (by decide)]; exact g.2.1
    · rw [u2_k _ _ _ _ (by decide)]; exact g.2.2.2
end Hs6
