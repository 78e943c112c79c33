/-! the reference: the lines of a book -/
def pSc (nx : tokT → tokT) (hd : Nat → Nat) (nm : Nat → List Nat) (t : tokT) : pE (Nat × tokT) := if isN t = false then fl t 1 else match fndN nm t.2.2.2.2 (hd 0) 0 with
  | none => fl t 3
  | some s => .ok (s, nx t)
def pCk (nx : tokT → tokT) (hd : Nat → Nat) (nm : Nat → List Nat) (t : tokT) : pE ((Nat × Nat) × tokT) := match pSc nx hd nm t with
  | .error e => .error e
  | .ok p => match rdN nx p.2 0 3 with
    | .error e => .error e
    | .ok q => .ok ((p.1, q.1), q.2)
abbrev bR := Nat × Nat × Nat × Nat × Nat
def pBr (nx : tokT → tokT) (hd : Nat → Nat) (nm : Nat → List Nat) (w : Nat) (t : tokT) : pE (bR × tokT) := match w with
  | 0 => match pCk nx hd nm t with
    | .error e => .error e
    | .ok p => match rdN nx p.2 1 400 with
      | .error e => .error e
      | .ok z => .ok ((p.1.1, p.1.2, 0, 0, z.1), z.2)
  | 1 => match pSc nx hd nm t with
    | .error e => .error e
    | .ok p => .ok ((p.1, 0, 0, 0, 0), p.2)
  | 2 => .ok ((0, 0, 0, 0, 0), t)
  | 3 => match pCk nx hd nm t with
    | .error e => .error e
    | .ok p => match pCk nx hd nm p.2 with
      | .error e => .error e
      | .ok q => match rdN nx q.2 1 400 with
        | .error e => .error e
        | .ok z => .ok ((p.1.1, p.1.2, q.1.1, q.1.2, z.1), z.2)
  | _ => match rdN nx t 1 39 with
    | .error e => .error e
    | .ok z => .ok ((0, 0, 0, 0, z.1), z.2)
def wB (t : tokT) : Option Nat := if isW t 5 then some 0 else if isW t 6 then some 1 else if isW t 7 then some 2 else if isW t 8 then some 3 else if isW t 9 then some 4 else none
abbrev bL := Nat × bR
def pBl (nx : tokT → tokT) (hd : Nat → Nat) (nm : Nat → List Nat) (c : Nat) (t : tokT) : pE (bL × tokT) := match wB t with
  | none => fl t 1
  | some w => if c = 40 then fl t 4 else match pBr nx hd nm w (nx t) with
    | .error e => .error e
    | .ok p => if eE p.2 = 0 then .ok ((w, p.1), nx p.2) else fl p.2 1
def upL (ls : Nat → bL) (c : Nat) (b : bL) : Nat → bL := fun i => if i = c then b else ls i
def pBk (nx : tokT → tokT) (hd : Nat → Nat) (nm : Nat → List Nat) : Nat → Nat → (Nat → bL) → tokT → pE (Nat × (Nat → bL))
  | 0, c, ls, _ => .ok (c, ls)
  | f + 1, c, ls, t => if t.1 = 0 then .ok (c, ls) else match pBl nx hd nm c t with
    | .error e => .error e
    | .ok p => pBk nx hd nm f (c + 1) (upL ls c p.1) p.2
def bL0 : bL := (2, 0, 0, 0, 0, 0)
def pBook (hd : Nat → Nat) (nm : Nat → List Nat) (tp : Nat → Nat) (tl : Nat) : pE (Nat × (Nat → bL)) := pBk (nxT tp tl 400) hd nm 41 0 (fun _ => bL0) (tok tp tl 400 0)
/-- a line that can be lived -/
def okB (hd : Nat → Nat) (b : bL) : Prop := b.1 ≤ 4 ∧ (b.1 = 0 ∨ b.1 = 1 ∨ b.1 = 3 → b.2.1 < hd 0) ∧ b.2.2.1 ≤ 3 ∧ (b.1 = 3 → b.2.2.2.1 < hd 0) ∧ b.2.2.2.2.1 ≤ 3 ∧ b.2.2.2.2.2 ≤ 400 ∧ (b.1 = 4 → b.2.2.2.2.2 ≤ 39)
theorem pSc_ok {nx : tokT → tokT} {hd : Nat → Nat} {nm : Nat → List Nat} {t : tokT} {p : Nat × tokT} (h : pSc nx hd nm t = .ok p) : p.1 < hd 0 ∧ p.2 = nx t := by
  unfold pSc at h
  split at h
  · cases h
  · split at h
    · cases h
    · rename_i s hs
      cases h
      have := (fndN_lt hs).2.1
      exact ⟨by omega, rfl⟩
theorem pCk_ok {nx : tokT → tokT} {hd : Nat → Nat} {nm : Nat → List Nat} {t : tokT} {p : (Nat × Nat) × tokT} (h : pCk nx hd nm t = .ok p) : p.1.1 < hd 0 ∧ p.1.2 ≤ 3 := by
  unfold pCk at h
  split at h
  · cases h
  · rename_i q hq
    split at h
    · cases h
    · rename_i r hr
      cases h
      exact ⟨(pSc_ok hq).1, (rdN_val hr).2.2⟩
theorem pBr_ok {nx : tokT → tokT} {hd : Nat → Nat} {nm : Nat → List Nat} {w : Nat} {t : tokT} {p : bR × tokT} (hw : w ≤ 4) (h : pBr nx hd nm w t = .ok p) : okB hd (w, p.1) := by
  unfold pBr at h
  split at h
  · split at h
    · cases h
    · rename_i q hq
      split at h
      · cases h
      · rename_i z hz
        cases h
        have a := pCk_ok hq
        exact ⟨hw, fun _ => a.1, a.2, fun e => (by cases e), Nat.zero_le _, (rdN_val hz).2.2, fun e => (by cases e)⟩
  · split at h
    · cases h
    · rename_i q hq
      cases h
      exact ⟨hw, fun _ => (pSc_ok hq).1, Nat.zero_le _, fun e => (by cases e), Nat.zero_le _, Nat.zero_le _, fun e => (by cases e)⟩
  · cases h
    exact ⟨hw, fun e => (by rcases e with e | e | e <;> cases e), Nat.zero_le _, fun e => (by cases e), Nat.zero_le _, Nat.zero_le _, fun e => (by cases e)⟩
  · split at h
    · cases h
    · rename_i q hq
      split at h
      · cases h
      · rename_i r hr
        split at h
        · cases h
        · rename_i z hz
          cases h
          have a := pCk_ok hq
          have b := pCk_ok hr
          exact ⟨hw, fun _ => a.1, a.2, fun _ => b.1, b.2, (rdN_val hz).2.2, fun e => (by cases e)⟩
  · split at h
    · cases h
    · rename_i z hz
      cases h
      have a := (rdN_val hz).2.2
      refine ⟨hw, fun e => ?_, Nat.zero_le _, fun e => ?_, Nat.zero_le _, by show z.1 ≤ 400; omega, fun _ => a⟩
      · rcases e with e | e | e <;> simp_all
      · simp_all
theorem wB_le {t : tokT} {w : Nat} (h : wB t = some w) : w ≤ 4 := by
  unfold wB at h
  split at h
  · cases h; decide
  · split at h
    · cases h; decide
    · split at h
      · cases h; decide
      · split at h
        · cases h; decide
        · split at h
          · cases h; decide
          · cases h
theorem pBl_ok {nx : tokT → tokT} {hd : Nat → Nat} {nm : Nat → List Nat} {c : Nat} {t : tokT} {p : bL × tokT} (h : pBl nx hd nm c t = .ok p) : okB hd p.1 ∧ c ≠ 40 := by
  unfold pBl at h
  split at h
  · cases h
  · rename_i w hw
    split at h
    · cases h
    · rename_i hc
      split at h
      · cases h
      · rename_i q hq
        split at h
        · cases h; exact ⟨pBr_ok (wB_le hw) hq, hc⟩
        · cases h
theorem okB_0 (hd : Nat → Nat) : okB hd bL0 := ⟨by decide, fun e => (by rcases e with e | e | e <;> cases e), by decide, fun e => (by cases e), by decide, by decide, fun e => (by cases e)⟩
theorem pBk_ok {nx : tokT → tokT} {hd : Nat → Nat} {nm : Nat → List Nat} : ∀ (f c : Nat) (ls : Nat → bL) (t : tokT) (p : Nat × (Nat → bL)), (∀ i, okB hd (ls i)) → c ≤ 40 → pBk nx hd nm f c ls t = .ok p → p.1 ≤ 40 ∧ ∀ i, okB hd (p.2 i) := by
  intro f
  induction f with
  | zero => intro c ls t p o hc h; cases h; exact ⟨hc, o⟩
  | succ f ih =>
    intro c ls t p o hc h
    simp only [pBk] at h
    split at h
    · cases h; exact ⟨hc, o⟩
    · split at h
      · cases h
      · rename_i q hq
        have a := pBl_ok hq
        refine ih (c + 1) _ _ p (fun i => ?_) (by omega) h
        unfold upL
        split
        · exact a.1
        · exact o i
theorem isW_inj {t : tokT} {j k : Nat} (hj : j < 22) (hk : k < 22) (h1 : isW t j = true) (h2 : isW t k = true) : j = k := by
  have inj : ∀ j, j < 22 → ∀ k, k < 22 → wl j = wl k → j = k := by decide
  unfold isW at h1 h2
  rw [Bool.and_eq_true] at h1 h2
  exact inj j hj k hk ((of_decide_eq_true h1.2).symm.trans (of_decide_eq_true h2.2))
