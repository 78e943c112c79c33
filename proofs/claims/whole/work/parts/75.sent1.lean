/-! sentences: their parts in the order in which they are joined -/
abbrev itT := Nat × Nat × Nat
abbrev sgT := List itT × Nat
def wI (t : tokT) : Option Nat := if t.1 = 2 then fndN wl t.2.2.2.2 22 0 else none
theorem wI_lt {t : tokT} {w : Nat} (h : wI t = some w) : w < 22 ∧ t.1 = 2 ∧ wl w = t.2.2.2.2 := by
  unfold wI at h
  split at h
  · have := fndN_lt h; exact ⟨by omega, by assumption, this.2.2⟩
  · cases h
theorem fndN_none {nm : Nat → List Nat} {w : List Nat} : ∀ {f k : Nat}, fndN nm w f k = none → ∀ j, k ≤ j → j < k + f → nm j ≠ w := by
  intro f
  induction f with
  | zero => intro k _ j h1 h2; omega
  | succ f ih =>
    intro k h j h1 h2
    simp only [fndN] at h
    split at h
    · cases h
    · rename_i hn
      by_cases e : j = k
      · rw [e]; exact hn
      · exact ih h j (by omega) (by omega)
theorem isW_wI {t : tokT} {k : Nat} (hk : k < 22) : isW t k = decide (wI t = some k) := by
  cases e : wI t with
  | none =>
    have : isW t k = false := by
      cases e2 : isW t k with
      | false => rfl
      | true =>
        unfold isW at e2
        rw [Bool.and_eq_true] at e2
        have a := of_decide_eq_true e2.1
        have b := of_decide_eq_true e2.2
        unfold wI at e
        rw [if_pos a] at e
        exact absurd b.symm (fndN_none e k (by omega) (by omega))
    rw [this]; rfl
  | some w =>
    have hw := wI_lt e
    have h1 : isW t w = true := by unfold isW; rw [decide_eq_true hw.2.1, decide_eq_true hw.2.2.symm]; rfl
    by_cases c : w = k
    · subst c; rw [h1]; exact (decide_eq_true rfl).symm
    · rw [isW_no h1 hw.1 hk c]; exact (decide_eq_false (fun q => c (Option.some.inj q))).symm
theorem isN_wI {t : tokT} : isN t = (decide (t.1 = 2) && decide (wI t = none)) := by
  unfold isN
  by_cases e : t.1 = 2
  · rw [decide_eq_true e, Bool.true_and, Bool.true_and]
    cases e2 : wI t with
    | none =>
      unfold wI at e2
      rw [if_pos e] at e2
      have : allB (fun k => decide (t.2.2.2.2 ≠ wl k)) 22 = true := allB_t.mpr (fun k hk => decide_eq_true (fun q => fndN_none e2 k (by omega) (by omega) q.symm))
      rw [this]; rfl
    | some w =>
      have hw := wI_lt e2
      have : allB (fun k => decide (t.2.2.2.2 ≠ wl k)) 22 = false := by
        cases e3 : allB (fun k => decide (t.2.2.2.2 ≠ wl k)) 22 with
        | false => rfl
        | true => exact absurd hw.2.2.symm (of_decide_eq_true (allB_t.mp e3 w hw.1))
      rw [this]; rfl
  · rw [decide_eq_false e, Bool.false_and, Bool.false_and]
def pPl (nx : tokT → tokT) (hd : Nat → Nat) (nm : Nat → List Nat) (w : Nat) (t : tokT) : pE (itT × tokT) :=
  if w < 16 then .ok ((w, 0, 0), t)
  else if w = 16 then (match pSc nx hd nm t with
    | .error e => .error e
    | .ok p => .ok ((16, 0, p.1), p.2))
  else if w = 17 then (match rdN nx t 0 39 with
    | .error e => .error e
    | .ok p => .ok ((17, 0, p.1), p.2))
  else if isS t 60 || isS t 61 || isS t 62 then (match rdN nx (nx t) 0 999 with
    | .error e => .error e
    | .ok p => .ok ((w, t.2.2.2.1, p.1), p.2))
  else fl t 1
def sAd (b : Bool) (i : Nat) (s : sgT) : sgT := if b then (s.1 ++ [(i, 0, 0)], s.2) else s
/-- parts joined by the word w -/
def pLp (nx : tokT → tokT) (w : Nat) (sd : sgT → tokT → pE (sgT × tokT)) : Nat → Bool → sgT → tokT → pE (sgT × tokT)
  | 0, _, _, _ => .error (0, 0)
  | l + 1, b, s, t => match sd s t with
    | .error e => .error e
    | .ok p => if isW p.2 w then pLp nx w sd l true (sAd b w p.1) (nx p.2) else .ok (sAd b w p.1, p.2)
def pAndW (nx : tokT → tokT) (sd : sgT → tokT → pE (sgT × tokT)) : sgT → tokT → pE (sgT × tokT) := pLp nx 11 sd 21 false
def pOrW (nx : tokT → tokT) (sd : sgT → tokT → pE (sgT × tokT)) : sgT → tokT → pE (sgT × tokT) := pLp nx 10 (pAndW nx sd) 21 false
def stW (t : tokT) : Bool := isS t 40 || (match wI t with
  | some w => decide (12 ≤ w)
  | none => false)
def pSd (nx : tokT → tokT) (hd : Nat → Nat) (nm : Nat → List Nat) : Nat → sgT → tokT → pE (sgT × tokT)
  | 0 => fun _ t => if stW t then fl t 4 else fl t 1
  | dep + 1 => fun s t => if stW t then (if s.2 = 20 then fl t 4 else if isS t 40 then (match pOrW nx (pSd nx hd nm dep) (s.1, s.2 + 1) (nx t) with
      | .error e => .error e
      | .ok p => if isS p.2 41 then .ok (p.1, nx p.2) else fl p.2 1)
    else (match wI t with
      | none => fl t 1
      | some w => if w = 12 then (match pSd nx hd nm dep (s.1, s.2 + 1) (nx t) with
          | .error e => .error e
          | .ok p => .ok ((p.1.1 ++ [(12, 0, 0)], p.1.2), p.2))
        else (match pPl nx hd nm w (nx t) with
          | .error e => .error e
          | .ok p => .ok ((s.1 ++ [p.1], s.2 + 1), p.2)))) else fl t 1
def pSen (hd : Nat → Nat) (nm : Nat → List Nat) (tp : Nat → Nat) (tl : Nat) : pE sgT := match pOrW (nxT tp tl 200) (pSd (nxT tp tl 200) hd nm 8) ([], 0) (tok tp tl 200 0) with
  | .error e => .error e
  | .ok p => if p.2.1 = 0 then .ok p.1 else fl p.2 1
/-- what is said, one part after the other, on a number of bits -/
def ev1 (pv : itT → Bool) (s : Nat) (i : itT) : Nat := if i.1 = 10 then s / 2 / 2 * 2 + max (s / 2 % 2) (s % 2) else if i.1 = 11 then s / 2 / 2 * 2 + min (s / 2 % 2) (s % 2) else if i.1 = 12 then s / 2 * 2 + (1 - s % 2) else 2 * s + (if pv i then 1 else 0)
def ev (pv : itT → Bool) (L : List itT) (s : Nat) : Nat := L.foldl (ev1 pv) s
theorem ev_app (pv : itT → Bool) (a b : List itT) (s : Nat) : ev pv (a ++ b) s = ev pv b (ev pv a s) := by unfold ev; rw [List.foldl_append]
theorem ev_1 (pv : itT → Bool) (i : itT) (s : Nat) : ev pv [i] s = ev1 pv s i := rfl
def b2 (b : Bool) : Nat := if b then 1 else 0
theorem b2_le (b : Bool) : b2 b ≤ 1 := by cases b <;> decide
theorem ev_or (pv : itT → Bool) (s : Nat) (a b : Bool) : ev pv [(10, 0, 0)] (2 * (2 * s + b2 a) + b2 b) = 2 * s + b2 (a || b) := by
  rw [ev_1]
  unfold ev1
  rw [if_pos rfl]
  cases a <;> cases b <;> simp only [b2, Bool.or_false, Bool.or_true, Bool.false_or, Bool.true_or, if_true, if_false, Bool.false_eq_true] <;> omega
theorem ev_and (pv : itT → Bool) (s : Nat) (a b : Bool) : ev pv [(11, 0, 0)] (2 * (2 * s + b2 a) + b2 b) = 2 * s + b2 (a && b) := by
  rw [ev_1]
  unfold ev1
  rw [if_neg (by decide), if_pos rfl]
  cases a <;> cases b <;> simp only [b2, Bool.and_false, Bool.and_true, Bool.false_and, Bool.true_and, if_true, if_false, Bool.false_eq_true] <;> omega
theorem ev_not (pv : itT → Bool) (s : Nat) (a : Bool) : ev pv [(12, 0, 0)] (2 * s + b2 a) = 2 * s + b2 (!a) := by
  rw [ev_1]
  unfold ev1
  rw [if_neg (by decide), if_neg (by decide), if_pos rfl]
  cases a <;> simp only [b2, Bool.not_false, Bool.not_true, if_true, if_false, Bool.false_eq_true] <;> omega
theorem ev_pl (pv : itT → Bool) (s : Nat) {i : itT} (h : 13 ≤ i.1) : ev pv [i] s = 2 * s + b2 (pv i) := by
  rw [ev_1]
  unfold ev1
  rw [if_neg (by omega), if_neg (by omega), if_neg (by omega)]; rfl
/-- a part that says one thing -/
def oneV (pv : itT → Bool) (L : List itT) (v : Bool) : Prop := ∀ s, ev pv L s = 2 * s + b2 v
/-! the reference's nodes -/
abbrev ndT := Nat × Nat × Nat × Nat
def itm (q : ndT) : itT := if q.1 = 66 ∨ q.1 = 67 then (q.1 - 50, 0, q.2.1) else (q.1 - 50, q.2.2.2, q.2.2.1)
def hvN (pv : itT → Bool) (nd : Nat → ndT) : Nat → Nat → Bool
  | 0, _ => false
  | f + 1, k => if (nd k).1 = 1 then !hvN pv nd f (nd k).2.1 else if (nd k).1 = 2 then hvN pv nd f (nd k).2.1 && hvN pv nd f (nd k).2.2.1 else if (nd k).1 = 3 then hvN pv nd f (nd k).2.1 || hvN pv nd f (nd k).2.2.1 else pv (itm (nd k))
/-- children come before -/
def wfN (nd : Nat → ndT) (m : Nat) : Prop := ∀ i, i < m → (((nd i).1 = 1 ∧ (nd i).2.1 < i) ∨ (((nd i).1 = 2 ∨ (nd i).1 = 3) ∧ (nd i).2.1 < i ∧ (nd i).2.2.1 < i) ∨ (63 ≤ (nd i).1 ∧ (nd i).1 ≤ 71 ∧ ((nd i).1 = 67 → (nd i).2.1 ≤ 39))) ∧ (nd i).2.1 ≤ 60 ∧ (nd i).2.2.1 ≤ 999 ∧ (nd i).2.2.2 ≤ 999
theorem hvN_congr {pv : itT → Bool} {nd nd' : Nat → ndT} {m : Nat} (w : wfN nd m) (e : ∀ i, i < m → nd' i = nd i) : ∀ (f f' k : Nat), k < f → k < f' → k < m → hvN pv nd' f' k = hvN pv nd f k := by
  intro f
  induction f with
  | zero => intro f' k h; omega
  | succ f ih =>
    intro f' k h1 h2 h3
    obtain ⟨g, rfl⟩ : ∃ g, f' = g + 1 := ⟨f' - 1, by omega⟩
    simp only [hvN]
    rw [e k h3]
    have wk := (w k h3).1
    split
    · rename_i c
      have : (nd k).2.1 < k := by omega
      rw [ih g _ (by omega) (by omega) (by omega)]
    · split
      · rename_i c
        have : (nd k).2.1 < k ∧ (nd k).2.2.1 < k := by omega
        rw [ih g _ (by omega) (by omega) (by omega), ih g _ (by omega) (by omega) (by omega)]
      · split
        · rename_i c
          have : (nd k).2.1 < k ∧ (nd k).2.2.1 < k := by omega
          rw [ih g _ (by omega) (by omega) (by omega), ih g _ (by omega) (by omega) (by omega)]
        · rfl
def hv (pv : itT → Bool) (nd : Nat → ndT) (k : Nat) : Bool := hvN pv nd (k + 1) k
def upQ (nd : Nat → ndT) (m : Nat) (q : ndT) : Nat → ndT := fun i => if i = m then q else nd i
theorem hv_ext {pv : itT → Bool} {nd : Nat → ndT} {m : Nat} (w : wfN nd m) (q : ndT) {k : Nat} (hk : k < m) : hv pv (upQ nd m q) k = hv pv nd k := hvN_congr w (fun i hi => by unfold upQ; rw [if_neg (by omega)]) _ _ _ (by omega) (by omega) hk
/-- how much is said -/
def okSd (sd : sgT → tokT → pE (sgT × tokT)) : Prop := ∀ s t p, s.2 ≤ 20 → sd s t = .ok p → ∃ seg, p.1.1 = s.1 ++ seg ∧ seg.length + 1 ≤ 2 * (p.1.2 - s.2) ∧ s.2 < p.1.2 ∧ p.1.2 ≤ 20
theorem okLp {nx : tokT → tokT} {w : Nat} {sd : sgT → tokT → pE (sgT × tokT)} (o : okSd sd) : ∀ (l : Nat) (b : Bool) (s : sgT) (t : tokT) (p : sgT × tokT), s.2 ≤ 20 → pLp nx w sd l b s t = .ok p → ∃ seg, p.1.1 = s.1 ++ seg ∧ seg.length + 1 ≤ 2 * (p.1.2 - s.2) + b2 b ∧ s.2 < p.1.2 ∧ p.1.2 ≤ 20 := by
  intro l
  induction l with
  | zero => intro b s t p _ h; cases h
  | succ l ih =>
    intro b s t p hs h
    simp only [pLp] at h
    split at h
    · cases h
    · rename_i q hq
      obtain ⟨seg, e1, e2, e3, e4⟩ := o s t q hs hq
      have eA : ∃ sg, (sAd b w q.1).1 = s.1 ++ sg ∧ sg.length = seg.length + b2 b ∧ (sAd b w q.1).2 = q.1.2 := by
        unfold sAd
        cases b
        · exact ⟨seg, e1, rfl, rfl⟩
        · exact ⟨seg ++ [(w, 0, 0)], by simp [e1], by simp [b2], rfl⟩
      obtain ⟨sg, g1, g2, g3⟩ := eA
      split at h
      · obtain ⟨sg2, k1, k2, k3, k4⟩ := ih true _ _ p (by omega) h
        refine ⟨sg ++ sg2, by rw [k1, g1, List.append_assoc], ?_, by omega, k4⟩
        have : b2 true = 1 := rfl
        rw [List.length_append]; omega
      · cases h
        exact ⟨sg, g1, by show sg.length + 1 ≤ 2 * ((sAd b w q.1).2 - s.2) + b2 b; rw [g3]; omega, by show s.2 < (sAd b w q.1).2; omega, by show (sAd b w q.1).2 ≤ 20; omega⟩
theorem okLp0 {nx : tokT → tokT} {w : Nat} {sd : sgT → tokT → pE (sgT × tokT)} (o : okSd sd) (l : Nat) : okSd (pLp nx w sd l false) := fun s t p hs h => by
  obtain ⟨seg, a, b, c, d⟩ := okLp o l false s t p hs h
  exact ⟨seg, a, by have : b2 false = 0 := rfl
                    omega, c, d⟩
theorem okSd_d (nx : tokT → tokT) (hd : Nat → Nat) (nm : Nat → List Nat) : ∀ dep, okSd (pSd nx hd nm dep) := by
  intro dep
  induction dep with
  | zero =>
    intro s t p _ h
    simp only [pSd] at h
    split at h <;> cases h
  | succ dep ih =>
    intro s t p hs h
    simp only [pSd] at h
    split at h
    · split at h
      · cases h
      · rename_i h20
        split at h
        · split at h
          · cases h
          · rename_i q hq
            split at h
            · cases h
              obtain ⟨seg, a, b, c, d⟩ := okLp0 (okLp0 ih 21) 21 _ _ q (by show s.2 + 1 ≤ 20; omega) hq
              simp only at a b c
              exact ⟨seg, a, by show _ ≤ 2 * (q.1.2 - s.2); omega, by show s.2 < q.1.2; omega, d⟩
            · cases h
        · split at h
          · cases h
          · split at h
            · split at h
              · cases h
              · rename_i q hq
                cases h
                obtain ⟨seg, a, b, c, d⟩ := ih _ _ q (by show s.2 + 1 ≤ 20; omega) hq
                simp only at a b c
                exact ⟨seg ++ [(12, 0, 0)], by simp [a], by rw [List.length_append]; show seg.length + 1 + 1 ≤ 2 * (q.1.2 - s.2); omega, by show s.2 < q.1.2; omega, d⟩
            · split at h
              · cases h
              · rename_i q hq
                cases h
                exact ⟨[q.1], rfl, by show 1 + 1 ≤ 2 * (s.2 + 1 - s.2); omega, by show s.2 < s.2 + 1; omega, by show s.2 + 1 ≤ 20; omega⟩
    · cases h
