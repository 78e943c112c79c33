/-! the reference: a sentence kept, and what it holds of -/
def cmpB (sg v y : Nat) : Bool := if sg = 60 then decide (v < y) else if sg = 61 then decide (v = y) else decide (y < v)
def pvV (so : Nat → Nat) (p w : Nat) : Nat := if w = 18 then ltr so p else if w = 19 then (if ltr so p = 0 then 0 else ags so p / ltr so p) else if w = 20 then so (43 + p) else p
/-- does a plain thing hold of cask p -/
def pvC (hd so : Nat → Nat) (p : Nat) (i : itT) : Bool :=
  if i.1 = 13 then decide (lck hd so p = 0) else if i.1 = 14 then decide (ltr so p = 0) else if i.1 = 15 then decide (lo (wn so p) 40 ≠ hi (wn so p) 40)
  else if i.1 = 16 then decide (sof hd p = i.2.2) else if i.1 = 17 then decide (0 < wn so p i.2.2) else cmpB i.2.1 (pvV so p i.1) i.2.2
theorem cmp_f {sg v y : Nat} {A0 A1 VP : Prop} (hv : v < 2147483648) (hy : y < 2147483648) (hs : sg < 2147483648) (vp : VP) (h : if cmpB sg v y then A1 else A0) : ((nI sg = 60 → ((nI y ≤ nI v → A0) ∧ (¬ nI y ≤ nI v → A1))) ∧ (¬ nI sg = 60 → VP ∧ ((nI sg = 61 → ((nI v = nI y → A1) ∧ (¬ nI v = nI y → A0))) ∧ (¬ nI sg = 61 → ((nI v ≤ nI y → A0) ∧ (¬ nI v ≤ nI y → A1)))))) := by
  have e60 : (nI sg = 60) = (sg = 60) := i_eq (b := 60) hs (by decide)
  have e61 : (nI sg = 61) = (sg = 61) := i_eq (b := 61) hs (by decide)
  rw [e60, e61, i_le hy hv, i_le hv hy, i_eq hv hy]
  unfold cmpB at h
  by_cases c0 : sg = 60
  · rw [if_pos c0] at h
    refine br_t c0 ?_
    by_cases c : v < y
    · rw [decide_eq_true c] at h; exact br_f (by omega) h
    · rw [decide_eq_false c] at h; exact br_t (by omega) h
  · rw [if_neg c0] at h
    refine br_f c0 ⟨vp, ?_⟩
    by_cases c1 : sg = 61
    · rw [if_pos c1] at h
      refine br_t c1 ?_
      by_cases c : v = y
      · rw [decide_eq_true c] at h; exact br_t c h
      · rw [decide_eq_false c] at h; exact br_f c h
    · rw [if_neg c1] at h
      refine br_f c1 ?_
      by_cases c : y < v
      · rw [decide_eq_true c] at h; exact br_f (by omega) h
      · rw [decide_eq_false c] at h; exact br_t (by omega) h
theorem oI_eq {a b : Option Nat} (ha : ∀ v, a = some v → v < 40) (hb : ∀ v, b = some v → v < 40) : (oI a = oI b) ↔ a = b := by
  cases a with
  | none =>
    cases b with
    | none => simp
    | some y =>
      have := hb y rfl
      simp only [reduceCtorEq, iff_false]
      exact fun q => nI_nm1 (k := y) (by omega) q.symm
  | some x =>
    have hx := ha x rfl
    cases b with
    | none =>
      simp only [reduceCtorEq, iff_false]
      exact fun q => nI_nm1 (k := x) (by omega) q
    | some y =>
      have hy := hb y rfl
      show nI x = nI y ↔ _
      rw [nI_eq (by omega) (by omega)]; simp
/-- the nodes in the row that is so -/
def rND (I : sI) (nd : Nat → ndT) (m : Nat) : Prop := ∀ i, i < m → I 93 (1680 + 4 * i) = nI (nd i).1 ∧ I 93 (1680 + 4 * i + 1) = nI (nd i).2.1 ∧ I 93 (1680 + 4 * i + 2) = nI (nd i).2.2.1 ∧ I 93 (1680 + 4 * i + 3) = nI (nd i).2.2.2
theorem itm_w {q : ndT} : (itm q).1 = q.1 - 50 := by unfold itm; split <;> rfl
section ModSent5
variable {G : gG} {d : Nat} {I I0 : sI} {J J0 : sJ} {P : sP} {K : sK} {n : Nat} {F : Int32 → sI → sJ → Prop} {FV : sI → sJ → Prop} {hd so : Nat → Nat} {nd : Nat → ndT}
theorem if01 {b : Bool} (h : F (b01 b) I J) : if b then F 1 I J else F 0 I J := by cases b <;> exact h
theorem M_ageWhole {k : Nat} (hM : shM P K) (R : rM I hd so) (w : wf hd so) (hk : k < hd 1) (h : F (nI (if ltr so k = 0 then 0 else ags so k / ltr so k)) I J) : ckI G (d + 2) mX12_ageWhole [.ref 91, .int (nI k)] I J P K n F := by
  have hc := wf_casks w
  have hl := wf_ltr w hk
  have ha := ags_le w hk
  refine bX12_ageWhole_0 hM _ (M_litresOf hM R (by omega) ?_)
  by_cases e : ltr so k = 0
  · rw [if_pos e] at h
    rw [e]; exact br_t rfl h
  · rw [if_neg e] at h
    refine br_f (nI_ne0 (by omega) (by omega)) (M_agesOf hM R w hk (M_litresOf hM R (by omega) ⟨nI_ne0 (by omega) (by omega), ?_⟩))
    rw [i_div (by omega) (by omega) (by omega)]; exact h
theorem M_holdsN {p m : Nat} (hM : shM P K) (R : rM I hd so) (w : wf hd so) (hp : p < hd 1) (C : rND I nd m) (wn' : wfN nd m) (hm : m ≤ 60) : ∀ (f k d : Nat) (F : Int32 → sI → sJ → Prop), f ≤ d → k < f → k < m → F (b01 (hvN (pvC hd so p) nd f k)) I J → ckI G (d + 4) mX12_holds_ [.ref 91, .int (nI k), .int (nI p)] I J P K n F := by
  intro f
  induction f with
  | zero => intro k d F hd h; omega
  | succ f ih =>
    intro k d F hfd hk1 hk2 h
    obtain ⟨d, rfl⟩ : ∃ e, d = e + 1 := ⟨d - 1, by omega⟩
    have hc := wf_casks w
    obtain ⟨C0, C1, C2, C3⟩ := C k hk2
    obtain ⟨W0, W1, W2, W3⟩ := wn' k hk2
    have e0 : (1680 + 4 * nI k : Int32) = nI (1680 + 4 * k) := by rw [nI_m4]; exact i_add 1680 (4 * k)
    refine bX12_holds__0 hM _ _ ?_
    simp only [e0, nI_1, nI_p2, nI_p3, nI_ck (show 1680 + 4 * k < 2147483648 by omega), nI_ck (show 1680 + 4 * k + 1 < 2147483648 by omega), nI_ck (show 1680 + 4 * k + 2 < 2147483648 by omega), nI_ck (show 1680 + 4 * k + 3 < 2147483648 by omega), C0, C1, C2, C3]
    have v0 : vp_in (nI (1680 + 4 * k)) 1920 := nI_inN (by omega) (by decide)
    have v1 : vp_in (nI (1680 + 4 * k + 1)) 1920 := nI_inN (by omega) (by decide)
    have v2 : vp_in (nI (1680 + 4 * k + 2)) 1920 := nI_inN (by omega) (by decide)
    have v3 : vp_in (nI (1680 + 4 * k + 3)) 1920 := nI_inN (by omega) (by decide)
    simp only [hvN] at h
    generalize hq : nd k = q at *
    obtain ⟨c, a, b, r⟩ := q
    simp only at C0 C1 C2 C3 W0 W1 W2 W3 h ⊢
    have hcs : c = 1 ∨ c = 2 ∨ c = 3 ∨ c = 63 ∨ c = 64 ∨ c = 65 ∨ c = 66 ∨ c = 67 ∨ c = 68 ∨ c = 69 ∨ c = 70 ∨ c = 71 := by omega
    have cmp : ∀ (sg v y : Nat) (I' : sI) (J' : sJ), v < 2147483648 → y < 2147483648 → sg < 2147483648 → F (b01 (cmpB sg v y)) I' J' → if cmpB sg v y then F 1 I' J' else F 0 I' J' := fun sg v y I' J' _ _ _ hh => by
      cases e : cmpB sg v y
      · rw [e] at hh; exact hh
      · rw [e] at hh; exact hh
    refine ⟨v1, v2, v0, ?_⟩
    rcases hcs with rfl | rfl | rfl | rfl | rfl | rfl | rfl | rfl | rfl | rfl | rfl | rfl
    · refine ⟨fun _ => ?_, fun q => absurd q (by decide), fun q => absurd q (by decide), fun q => absurd q (by decide), fun q => absurd q (by decide), fun q => absurd q (by decide), fun q => absurd q (by decide), fun q => absurd q (by decide), fun q => absurd rfl q⟩
      refine ih a d _ (by omega) (by omega) (by omega) (b01n (fun e => ?_) (fun e => ?_))
      · rw [if_pos rfl, e] at h; exact h
      · rw [if_pos rfl, e] at h; exact h
    · refine ⟨fun q => absurd q (by decide), fun _ => ?_, fun q => absurd q (by decide), fun q => absurd q (by decide), fun q => absurd q (by decide), fun q => absurd q (by decide), fun q => absurd q (by decide), fun q => absurd q (by decide), fun _ q => absurd rfl q⟩
      rw [if_neg (by decide), if_pos rfl] at h
      refine ih a d _ (by omega) (by omega) (by omega) (b01n (fun e => ?_) (fun e => ih b d _ (by omega) (by omega) (by omega) (b01n (fun e2 => ?_) (fun e2 => ?_))))
      · rw [e] at h; exact h
      · rw [e, e2] at h; exact h
      · rw [e, e2] at h; exact h
    · refine ⟨fun q => absurd q (by decide), fun q => absurd q (by decide), fun _ => ?_, fun q => absurd q (by decide), fun q => absurd q (by decide), fun q => absurd q (by decide), fun q => absurd q (by decide), fun q => absurd q (by decide), fun _ _ q => absurd rfl q⟩
      rw [if_neg (by decide), if_neg (by decide), if_pos rfl] at h
      refine ih a d _ (by omega) (by omega) (by omega) (b01n (fun e => ih b d _ (by omega) (by omega) (by omega) (b01n (fun e2 => ?_) (fun e2 => ?_))) (fun e => ?_))
      · rw [e, e2] at h; exact h
      · rw [e, e2] at h; exact h
      · rw [e] at h; exact h
    · refine ⟨fun q => absurd q (by decide), fun q => absurd q (by decide), fun q => absurd q (by decide), fun _ => ?_, fun q => absurd q (by decide), fun q => absurd q (by decide), fun q => absurd q (by decide), fun q => absurd q (by decide), fun _ _ _ q => absurd rfl q⟩
      rw [if_neg (by decide), if_neg (by decide), if_neg (by decide)] at h
      have hl := lck_le w hp
      refine M_lacks hM R w hp ?_
      have h2 : F (b01 (decide (lck hd so p = 0))) I J := h
      by_cases e : lck hd so p = 0
      · rw [decide_eq_true e] at h2; rw [e]; exact br_t rfl h2
      · rw [decide_eq_false e] at h2; exact br_f (nI_ne0 (by omega) (by omega)) h2
    · refine ⟨fun q => absurd q (by decide), fun q => absurd q (by decide), fun q => absurd q (by decide), fun q => absurd q (by decide), fun _ => ?_, fun q => absurd q (by decide), fun q => absurd q (by decide), fun q => absurd q (by decide), fun _ _ _ _ q => absurd rfl q⟩
      rw [if_neg (by decide), if_neg (by decide), if_neg (by decide)] at h
      have hl := wf_ltr w hp
      refine M_litresOf hM R (by omega) ?_
      have h2 : F (b01 (decide (ltr so p = 0))) I J := h
      by_cases e : ltr so p = 0
      · rw [decide_eq_true e] at h2; rw [e]; exact br_t rfl h2
      · rw [decide_eq_false e] at h2; exact br_f (nI_ne0 (by omega) (by omega)) h2
    · refine ⟨fun q => absurd q (by decide), fun q => absurd q (by decide), fun q => absurd q (by decide), fun q => absurd q (by decide), fun q => absurd q (by decide), fun _ => ?_, fun q => absurd q (by decide), fun q => absurd q (by decide), fun _ _ _ _ _ q => absurd rfl q⟩
      rw [if_neg (by decide), if_neg (by decide), if_neg (by decide)] at h
      refine M_vintageOld hM R w hp (M_vintageYoung hM R w hp ?_)
      have h2 : F (b01 (decide (lo (wn so p) 40 ≠ hi (wn so p) 40))) I J := h
      have ee := oI_eq (a := lo (wn so p) 40) (b := hi (wn so p) 40) (fun v hv => (lo_lt hv).1) (fun v hv => (hi_lt hv).1)
      by_cases e : lo (wn so p) 40 = hi (wn so p) 40
      · rw [decide_eq_false (fun z => z e)] at h2; exact br_t (ee.mpr e) h2
      · rw [decide_eq_true e] at h2; exact br_f (fun z => e (ee.mp z)) h2
    · refine ⟨fun q => absurd q (by decide), fun q => absurd q (by decide), fun q => absurd q (by decide), fun q => absurd q (by decide), fun q => absurd q (by decide), fun q => absurd q (by decide), fun _ => ?_, fun q => absurd q (by decide), fun _ _ _ _ _ _ q => absurd rfl q⟩
      rw [if_neg (by decide), if_neg (by decide), if_neg (by decide)] at h
      have hs := (sof_at w hp).1
      have h0 := w.1
      refine M_scaleOf hM R w hp ?_
      have h2 : F (b01 (decide (sof hd p = a))) I J := h
      by_cases e : sof hd p = a
      · rw [decide_eq_true e] at h2; rw [e]; exact br_t rfl h2
      · rw [decide_eq_false e] at h2; exact br_f (fun z => e ((nI_eq (by omega) (by omega)).mp z)) h2
    · refine ⟨fun q => absurd q (by decide), fun q => absurd q (by decide), fun q => absurd q (by decide), fun q => absurd q (by decide), fun q => absurd q (by decide), fun q => absurd q (by decide), fun q => absurd q (by decide), fun _ => ?_, fun _ _ _ _ _ _ _ q => absurd rfl q⟩
      rw [if_neg (by decide), if_neg (by decide), if_neg (by decide)] at h
      have ha : a ≤ 39 := by omega
      refine M_wineAt p ?_
      have hw := wf_wn w hp (v := a) (by omega)
      rw [i_add, nI_ck (by omega), rM_wn R (by omega) (by omega)]
      refine ⟨nI_inN (by omega) (by decide), ?_⟩
      have h2 : F (b01 (decide (0 < wn so p a))) I J := h
      by_cases e : 0 < wn so p a
      · rw [decide_eq_true e] at h2; exact br_f (nI_nle e (by omega)) h2
      · rw [decide_eq_false e] at h2; exact br_t (by rw [show wn so p a = 0 by omega]; decide) h2
    · refine ⟨fun q => absurd q (by decide), fun q => absurd q (by decide), fun q => absurd q (by decide), fun q => absurd q (by decide), fun q => absurd q (by decide), fun q => absurd q (by decide), fun q => absurd q (by decide), fun q => absurd q (by decide), fun _ _ _ _ _ _ _ _ => ⟨v0, br_t (by decide) ?_⟩⟩
      rw [if_neg (by decide), if_neg (by decide), if_neg (by decide)] at h
      have hl := wf_ltr w hp
      refine M_litresOf hM R (by omega) ⟨v3, ?_⟩
      simp only [C3]
      exact cmp_f (by omega) (by omega) (by omega) v3 (cmp _ _ _ _ _ (by omega) (by omega) (by omega) h)
    · refine ⟨fun q => absurd q (by decide), fun q => absurd q (by decide), fun q => absurd q (by decide), fun q => absurd q (by decide), fun q => absurd q (by decide), fun q => absurd q (by decide), fun q => absurd q (by decide), fun q => absurd q (by decide), fun _ _ _ _ _ _ _ _ => ⟨v0, br_f (by decide) (br_t (by decide) ?_)⟩⟩
      rw [if_neg (by decide), if_neg (by decide), if_neg (by decide)] at h
      have ha := ags_le w hp
      refine M_ageWhole hM R w hp ⟨v3, ?_⟩
      simp only [C3]
      have hb : (if ltr so p = 0 then 0 else ags so p / ltr so p) < 2147483648 := by
        split
        · decide
        · have := Nat.div_le_self (ags so p) (ltr so p); omega
      exact cmp_f hb (by omega) (by omega) v3 (cmp _ _ _ _ _ hb (by omega) (by omega) h)
    · refine ⟨fun q => absurd q (by decide), fun q => absurd q (by decide), fun q => absurd q (by decide), fun q => absurd q (by decide), fun q => absurd q (by decide), fun q => absurd q (by decide), fun q => absurd q (by decide), fun q => absurd q (by decide), fun _ _ _ _ _ _ _ _ => ⟨v0, br_f (by decide) (br_f (by decide) (br_t (by decide) ?_))⟩⟩
      rw [if_neg (by decide), if_neg (by decide), if_neg (by decide)] at h
      have hdr := w.2.2.2.2.2.2.2.2.2.1 p (by omega)
      have e8 : (858 + nI p : Int32) = nI (858 + p) := i_add 858 p
      have r8 : I 93 (858 + p) = nI (so (43 + p)) := by have := R.2 (43 + p) (by omega); rw [show 815 + (43 + p) = 858 + p by omega] at this; exact this
      rw [e8, nI_ck (by omega), r8]
      refine ⟨nI_inN (by omega) (by decide), v3, ?_⟩
      exact cmp_f (by omega) (by omega) (by omega) v3 (cmp _ _ _ _ _ (by omega) (by omega) (by omega) h)
    · refine ⟨fun q => absurd q (by decide), fun q => absurd q (by decide), fun q => absurd q (by decide), fun q => absurd q (by decide), fun q => absurd q (by decide), fun q => absurd q (by decide), fun q => absurd q (by decide), fun q => absurd q (by decide), fun _ _ _ _ _ _ _ _ => ⟨v0, br_f (by decide) (br_f (by decide) (br_f (by decide) ⟨v3, ?_⟩))⟩⟩
      rw [if_neg (by decide), if_neg (by decide), if_neg (by decide)] at h
      exact cmp_f (by omega) (by omega) (by omega) v3 (cmp _ _ _ _ _ (by omega) (by omega) (by omega) h)
/-- which cask, or how many -/
def saidL (v : Nat → Bool) (x : Int32) : Nat → Nat → Nat → Int32
  | 0, _, c => if x = -1 then nI c else -1
  | f + 1, p, c => if v p then (if nI c = x then nI p else saidL v x f (p + 1) (c + 1)) else saidL v x f (p + 1) c
def sayB (hd so : Nat → Nat) (L : List itT) (p : Nat) : Bool := decide (ev (pvC hd so p) L 0 % 2 = 1)
def vSaid (hd so : Nat → Nat) (sn : Option (List itT)) (x : Int32) : Int32 := match sn with
  | none => -1
  | some L => saidL (sayB hd so L) x (hd 1) 0 0
def rSn (I : sI) (sn : Option (List itT)) : Prop := match sn with
  | none => I 93 1678 = 0
  | some L => I 93 1678 = 1 ∧ ∃ (nd : Nat → ndT) (top : Nat), I 93 1679 = nI top ∧ top < 60 ∧ wfN nd (top + 1) ∧ rND I nd (top + 1) ∧ ∀ pv, oneV pv L (hv pv nd top)
theorem M_said (x : Int32) {sn : Option (List itT)} (hM : shM P K) (R : rM I hd so) (w : wf hd so) (S : rSn I sn) (h : F (vSaid hd so sn x) (u2 I 91 0 0) J) : ckI G (d + 70) mX12_said [.ref 91, .int x] I J P K n F := by
  have hc := wf_casks w
  refine bX12_said_0 hM _ ?_
  cases sn with
  | none =>
    have S' : I 93 1678 = 0 := S
    rw [S']; exact br_t rfl h
  | some L =>
    obtain ⟨S1, nd, top, S2, S3, S4, S5, S6⟩ := S
    rw [S1]
    refine br_f (by decide) ?_
    have o : ∀ k, u2 I 91 0 0 93 k = I 93 k := fun k => u2_a _ _ _ _ (by decide)
    have R' : rM (u2 I 91 0 0) hd so := rM_91 R 0 0
    have C : rND (u2 I 91 0 0) nd (top + 1) := fun i hi => by simp only [o]; exact S5 i hi
    have eT : (u2 I 91 0 0) 93 1679 = nI top := (o _).trans S2
    have e1 : (u2 I 91 0 0) 93 1 = nI (hd 1) := R'.1 1 (by decide)
    have sb : ∀ p, sayB hd so L p = hv (pvC hd so p) nd top := fun p => by
      unfold sayB
      rw [S6 (pvC hd so p) 0]
      cases hv (pvC hd so p) nd top <;> rfl
    generalize u2 I 91 0 0 = B at *
    have key : ∀ f p c, p + f = hd 1 → c ≤ p → F (saidL (sayB hd so L) x f p c) B J → Ok G (d + 70) mX12_said 22 [some (.ref 91), some (.int x), some (.int (nI c)), some (.int (nI p))] [] B J P K n (kI P K n F) := by
      intro f
      induction f with
      | zero =>
        intro p c hp hcp hF
        refine bX12_said_22 hM _ _ _ ?_
        rw [e1]
        refine br_t (nI_le (by omega) (by omega)) ?_
        simp only [saidL] at hF
        by_cases e : x = -1
        · rw [if_pos e] at hF; exact br_t e hF
        · rw [if_neg e] at hF; exact br_f e hF
      | succ f ih =>
        intro p c hp hcp hF
        refine bX12_said_22 hM _ _ _ ?_
        rw [e1, eT]
        refine br_f (nI_ge (by omega) (by omega)) ?_
        have hh := M_holdsN (G := G) (n := n) (J := J) (P := P) (K := K) hM R' w (show p < hd 1 by omega) C S4 (by omega) (top + 1) top (d + 65) (fun v5 I3 J4 => ((v5 = 0 → Ok G (d + 70) mX12_said 22 [some (.ref 91), some (.int x), some (.int (nI c)), some (.int (nI p + 1))] [] I3 J4 P K n (kI P K n F)) ∧ (¬ v5 = 0 → ((nI c = x → F (nI p) I3 J4) ∧ (¬ nI c = x → Ok G (d + 70) mX12_said 22 [some (.ref 91), some (.int x), some (.int (nI c + 1)), some (.int (nI p + 1))] [] I3 J4 P K n (kI P K n F)))))) (by omega) (by omega) (by omega) ?_
        · exact hh
        · simp only [saidL] at hF
          rw [sb p] at hF
          refine b01n (fun e => ?_) (fun e => ?_)
          · have e' : hv (pvC hd so p) nd top = false := e
            rw [e'] at hF
            rw [nI_1]
            exact ih (p + 1) c (by omega) (by omega) hF
          · have e' : hv (pvC hd so p) nd top = true := e
            rw [e'] at hF
            rw [nI_1, nI_1]
            by_cases ec : nI c = x
            · rw [if_pos rfl, if_pos ec] at hF; exact br_t ec hF
            · rw [if_pos rfl, if_neg ec] at hF; exact br_f ec (ih (p + 1) (c + 1) (by omega) (by omega) hF)
    exact key (hd 1) 0 0 (by omega) (Nat.le_refl _) h
end ModSent5
