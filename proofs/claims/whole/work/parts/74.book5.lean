section ModBook5
variable {G : gG} {d : Nat} {I I0 : sI} {J J0 : sJ} {P : sP} {K : sK} {n : Nat} {F : Int32 → sI → sJ → Prop} {FV : sI → sJ → Prop} {hd so : Nat → Nat} {nm : Nat → List Nat} {sz lm : Nat} {tp : Nat → Nat}
/-- what book writes down -/
def wrB (hd : Nat → Nat) (r : Nat × Nat × (Nat → Nat)) : Nat → Int32 := fun k => if k = 0 then nI r.1 else if k = 1 then nI r.2.1 else if k = 2 then nI (r.2.2 0) else nI (sm (ltr r.2.2) (hd 1))
def gB1 (lv : Nat) (r : Nat × Nat × (Nat → Nat)) : Bool := decide (lv = 1) && decide (0 < r.2.1)
def bkLive (I0 : sI) (J0 : sJ) (hd so : Nat → Nat) (c : Nat) (us : Nat → Nat → Nat) (lv : Nat) (F : Int32 → sI → sJ → Prop) (r : Nat × Nat × (Nat → Nat)) : Prop := ∀ I', rM I' hd (if gB1 lv r then r.2.2 else so) → rU I' (psC (gB1 lv r) c) (psU (gB1 lv r) us so) → rWr I' (some (wrB hd r)) → (∀ a k, a ≠ 93 → a ≠ 96 → a ≠ 97 → a ≠ 114 → ¬ (102 ≤ a ∧ a ≤ 107) → ¬ (a = 91 ∧ (k = 27 ∨ k = 48)) → I' a k = I0 a k) → (∀ k, k < 815 ∨ 1678 ≤ k → I' 93 k = I0 93 k) → F (if r.1 = 0 then -1 else nI r.2.1) I' J0
theorem M_book104 {c lv : Nat} {us : Nat → Nat → Nat} {so0 : Nat → Nat} {r : Nat × Nat × (Nat → Nat)} (hM : shM P K) (R : rM I hd r.2.2) (w : wf hd r.2.2) (A : ∀ j, j < 863 → I 97 j = nI (so0 j)) (U : rU I c us) (hlv : lv < 2) (hr : r.1 ≤ 50) (hk : r.2.1 ≤ 1000) (f1 : ∀ a k, a ≠ 93 → a ≠ 97 → ¬ (102 ≤ a ∧ a ≤ 107) → I a k = I0 a k) (f2 : ∀ k, k < 815 ∨ 1678 ≤ k → I 93 k = I0 93 k) (h : bkLive I0 J hd so0 c us lv F r) : Ok G (d + 3) mX12_book 104 [some (.ref 91), some (.int (nI lv)), some (.int (nI r.2.1)), some (.int (nI r.1))] [] I J P K n (kI P K n F) := by
  refine bX12_book_104 hM _ _ _ ?_
  generalize hB : u2 (u2 (u2 I 114 0 (nI r.1)) 114 1 (nI r.2.1)) 114 2 (I 93 815) = B
  have b1 : ∀ a k, a ≠ 114 → B a k = I a k := fun a k ha => by rw [← hB, u2_a _ _ _ _ ha, u2_a _ _ _ _ ha, u2_a _ _ _ _ ha]
  have RB : rM B hd r.2.2 := rM_fr R (fun k => b1 93 k (by decide))
  refine M_litresAll hM RB w ?_
  generalize hC : u2 (u2 B 114 3 (nI (sm (ltr r.2.2) (hd 1)))) 91 48 1 = C
  have c1 : ∀ a k, a ≠ 114 → ¬ (a = 91 ∧ k = 48) → C a k = I a k := fun a k ha hk => by
    rw [← hC]; simp only [u2]; rw [if_neg hk, if_neg (fun q => ha q.1)]; exact b1 a k ha
  have RC : rM C hd r.2.2 := rM_fr R (fun k => c1 93 k (by decide) (by omega))
  have AC : ∀ j, j < 863 → C 97 j = nI (so0 j) := fun j hj => by rw [c1 97 j (by decide) (by omega)]; exact A j hj
  have UC : rU C c us := ⟨(c1 91 27 (by decide) (by omega)).trans U.1, U.2.1, fun i j hi hj => (c1 96 _ (by decide) (by omega)).trans (U.2.2 i j hi hj)⟩
  have WC : rWr C (some (wrB hd r)) := by
    refine ⟨by rw [← hC, u2_s], fun k hk => ?_⟩
    rw [← hC, u2_a _ _ _ _ (by decide)]
    have hcs : k = 0 ∨ k = 1 ∨ k = 2 ∨ k = 3 := by omega
    rcases hcs with rfl | rfl | rfl | rfl
    · rw [u2_k _ _ _ _ (by decide), ← hB, u2_k _ _ _ _ (by decide), u2_k _ _ _ _ (by decide), u2_s]; rfl
    · rw [u2_k _ _ _ _ (by decide), ← hB, u2_k _ _ _ _ (by decide), u2_s]; rfl
    · rw [u2_k _ _ _ _ (by decide), ← hB, u2_s, rM_year R]; rfl
    · rw [u2_s]; rfl
  have fin : ∀ b, b = gB1 lv r → ckV G (d + 2) mX12_stay [.ref 91, .int (b01 b)] C J P K n (fun I7 J8 => ((nI r.1 = 0 → F (-1) I7 J8) ∧ (¬ nI r.1 = 0 → F (nI r.2.1) I7 J8))) := by
    intro b hb
    subst hb
    refine M_stay _ hM RC AC UC (fun I' R' U' g => ?_)
    have hh := h I' R' U' ⟨(g 91 48 (by decide) (by decide) (by omega) (by omega)).trans WC.1, fun k hk => (g 114 k (by decide) (by decide) (by omega) (by omega)).trans (WC.2 k hk)⟩ (fun a k h1 h2 h3 h4 h5 h6 => by
      rw [g a k h2 h3 (by omega) (by omega), c1 a k h4 (by omega)]; exact f1 a k h1 h3 h5) (fun k hk => by
      rw [g 93 k (by decide) (by decide) (by omega) (by omega), c1 93 k (by decide) (by omega)]; exact f2 k hk)
    by_cases e : r.1 = 0
    · rw [if_pos e] at hh
      rw [e]; exact br_t rfl hh
    · rw [if_neg e] at hh
      exact br_f (nI_ne0 (by omega) (by omega)) hh
  by_cases e1 : lv = 1
  · subst e1
    refine br_t rfl ?_
    by_cases e2 : r.2.1 = 0
    · refine br_t (by rw [e2]; decide) (fin false ?_)
      unfold gB1; rw [e2]; rfl
    · refine br_f (nI_nle (by omega) (by omega)) (fin true ?_)
      unfold gB1; rw [decide_eq_true (show 0 < r.2.1 by omega)]; rfl
  · refine br_f (fun q => e1 ((nI_eq (by omega) (by decide)).mp q)) (fin false ?_)
    unfold gB1; rw [decide_eq_false e1]; rfl
theorem M_book73 {c lv cn : Nat} {us : Nat → Nat → Nat} {so0 : Nat → Nat} {ls : Nat → bL} (hM : shM P K) (ok : ∀ i, okB hd (ls i)) (hcn : cn ≤ 40) (hlv : lv < 2) : ∀ (fu k : Nat) (so : Nat → Nat) (I : sI), k + fu = cn → rM I hd so → wf hd so → (∀ j, j < 863 → I 97 j = nI (so0 j)) → rU I c us → I 91 47 = nI cn → (∀ l, l < cn → rLn I l (ls l)) → (∀ a k, a ≠ 93 → a ≠ 97 → ¬ (102 ≤ a ∧ a ≤ 107) → I a k = I0 a k) → (∀ k, k < 815 ∨ 1678 ≤ k → I 93 k = I0 93 k) → bkLive I0 J hd so0 c us lv F (lvB hd ls fu k so) → Ok G (d + 8) mX12_book 73 [some (.ref 91), some (.int (nI lv)), some (.int (nI k)), some (.int (nI 0))] [] I J P K n (kI P K n F) := by
  intro fu
  induction fu with
  | zero =>
    intro k so I hk R w A U e47 L f1 f2 h
    refine bX12_book_73 hM _ _ _ ?_
    rw [e47]
    refine br_t (nI_le (by omega) (by omega)) ?_
    exact M_book104 (r := (0, k, so)) hM R w A U hlv (Nat.zero_le 50) (by show k ≤ 1000; omega) f1 f2 h
  | succ fu ih =>
    intro k so I hk R w A U e47 L f1 f2 h
    refine bX12_book_73 hM _ _ _ ?_
    rw [e47]
    refine br_f (nI_ge (by omega) (by omega)) (br_t rfl ?_)
    rw [nI_m6]
    simp only [lvB] at h
    have hle := lvL_le (hd := hd) (so := so) (ok k).1
    refine M_goBy hM R w (L k (by omega)) (ok k) (by omega) (fun I' R' f => ?_)
    have A' : ∀ j, j < 863 → I' 97 j = nI (so0 j) := fun j hj => by rw [f.1 97 j (by decide) (by omega)]; exact A j hj
    have U' := rU_of U f
    have e47' : I' 91 47 = nI cn := (f.1 91 47 (by decide) (by omega)).trans e47
    have L' : ∀ l, l < cn → rLn I' l (ls l) := fun l hl => by
      have o : ∀ k, I' 113 k = I 113 k := fun k => f.1 113 k (by decide) (by omega)
      have := L l hl
      unfold rLn at this ⊢
      simp only [o]
      exact this
    have f1' : ∀ a k, a ≠ 93 → a ≠ 97 → ¬ (102 ≤ a ∧ a ≤ 107) → I' a k = I0 a k := fun a k h1 h2 h3 => by rw [f.1 a k h1 h3]; exact f1 a k h1 h2 h3
    have f2' : ∀ k, k < 815 ∨ 1678 ≤ k → I' 93 k = I0 93 k := fun k hk => by rw [f.2 k hk]; exact f2 k hk
    by_cases e : (lvL hd so (ls k)).1 = 0
    · rw [if_pos e] at h
      rw [e]
      refine br_t rfl ?_
      rw [nI_1]
      exact ih (k + 1) _ I' (by omega) R' (wf_lvL w (ok k)) A' U' e47' L' f1' f2' h
    · rw [if_neg e] at h
      refine br_f (nI_ne0 (by omega) (by omega)) ?_
      refine bX12_book_73 hM _ _ _ ?_
      rw [e47']
      refine br_f (nI_ge (by omega) (by omega)) (br_f (nI_ne0 (by omega) (by omega)) ?_)
      have e2 : (lvL hd so (ls k)).2 = so := by
        have hA : ∀ t x y z, (lvA hd so t x y z).1 ≠ 0 → (lvA hd so t x y z).2 = so := fun t x y z => by
          unfold lvA; split
          · intro q; exact absurd rfl q
          · intro _; rfl
        revert e
        unfold lvL
        split
        · split
          · intro q; exact absurd rfl q
          · intro _; rfl
        · split
          · exact hA _ _ _ _
          · split
            · exact hA _ _ _ _
            · split
              · intro _; rfl
              · split
                · split
                  · intro _; rfl
                  · exact hA _ _ _ _
                · exact hA _ _ _ _
      rw [e2] at R'
      exact M_book104 (r := ((lvL hd so (ls k)).1, k, so)) hM R' w A' U' hlv hle (by show k ≤ 1000; omega) f1' f2' h
/-- what book leaves -/
def bkPost (I : sI) (J : sJ) (hd so : Nat → Nat) (c : Nat) (us : Nat → Nat → Nat) (lv : Nat) (F : Int32 → sI → sJ → Prop) (r : pE (Nat × (Nat → bL))) : Prop := match r with
  | .error e => ∀ I' J', I' 91 0 = 0 → I' 91 2 = nI 0 → I' 91 10 = nI e.1 → (∀ a k, a ≠ 113 → ¬ (a = 91 ∧ (k = 0 ∨ (2 ≤ k ∧ k ≤ 11) ∨ k = 13 ∨ k = 47)) → I' a k = I a k) → (∀ c k, ¬ (c = 91 ∧ k = 12) → J' c k = J c k) → F ((-2) - nI e.2) I' J'
  | .ok p => ∀ I' J', rM I' hd (if gB1 lv (lvB hd p.2 p.1 0 so) then (lvB hd p.2 p.1 0 so).2.2 else so) → rU I' (psC (gB1 lv (lvB hd p.2 p.1 0 so)) c) (psU (gB1 lv (lvB hd p.2 p.1 0 so)) us so) → rWr I' (some (wrB hd (lvB hd p.2 p.1 0 so))) → I' 91 0 = 0 → I' 91 2 = nI 0 → I' 91 10 = nI 0 → (∀ a k, a ≠ 93 → a ≠ 96 → a ≠ 97 → a ≠ 113 → a ≠ 114 → ¬ (102 ≤ a ∧ a ≤ 107) → ¬ (a = 91 ∧ (k = 0 ∨ (2 ≤ k ∧ k ≤ 11) ∨ k = 13 ∨ k = 27 ∨ k = 47 ∨ k = 48)) → I' a k = I a k) → (∀ k, k < 815 ∨ 1678 ≤ k → I' 93 k = I 93 k) → (∀ c k, ¬ (c = 91 ∧ k = 12) → J' c k = J c k) → F (if (lvB hd p.2 p.1 0 so).1 = 0 then -1 else nI (lvB hd p.2 p.1 0 so).2.1) I' J'
theorem M_book30 {c lv : Nat} {us : Nat → Nat → Nat} {I1 : sI} {J1 : sJ} (hM : shM P K) (hlv : lv < 2) (w : wf hd so) : ∀ (fu cn : Nat) (ls : Nat → bL) (t : tokT) (I : sI) (J : sJ), cn + fu = 41 → cn ≤ 40 → (∀ i, okB hd (ls i)) → rP I J sz lm tp t → rM I hd so → rNm J hd nm → rU I c us → I 91 47 = nI cn → (∀ l, l < cn → rLn I l (ls l)) → I 91 0 = 0 → I 91 2 = nI 0 → I 91 10 = nI 0 → (∀ a k, a ≠ 113 → ¬ (a = 91 ∧ (k = 0 ∨ (2 ≤ k ∧ k ≤ 11) ∨ k = 13 ∨ k = 47)) → I a k = I1 a k) → (∀ c k, ¬ (c = 91 ∧ k = 12) → J c k = J1 c k) → bkPost I1 J1 hd so c us lv F (pBk (nxT tp sz lm) hd nm fu cn ls t) → Ok G (d + 8) mX12_book 30 [some (.ref 91), some (.int (nI lv)), none, none] [] I J P K n (kI P K n F) := by
  intro fu
  induction fu with
  | zero => intro cn ls t I J hc hc2; omega
  | succ fu ih =>
    intro cn ls t I J hc hc2 ok R RM N U e47 L z0 z2 z10 f fJ h
    have k7 := R.2.1.1
    have k4 := R.2.2.1
    simp only [pBk] at h
    refine bX12_book_30 hM _ ?_
    rw [k7]
    refine ⟨fun q => ?_, fun q => ?_⟩
    · have e : t.1 = 0 := (nI_eq (by omega) (by decide)).mp q
      rw [if_pos e] at h
      refine M_layAside hM RM.2 (fun I' a1 a2 => ?_)
      refine M_book73 (I0 := I) (so0 := so) hM ok hc2 hlv cn 0 so I' (by omega) (rM_97 RM a2) w a1 ⟨(a2 91 27 (by decide)).trans U.1, U.2.1, fun i j hi hj => (a2 96 _ (by decide)).trans (U.2.2 i j hi hj)⟩ ((a2 91 47 (by decide)).trans e47) (fun l hl => ?_) (fun a k h1 h2 h3 => a2 a k h2) (fun k hk => a2 93 k (by decide)) ?_
      · have o : ∀ k, I' 113 k = I 113 k := fun k => a2 113 k (by decide)
        have := L l hl
        unfold rLn at this ⊢
        simp only [o]
        exact this
      · intro I2 R2 U2 W2 g1 g2
        refine h I2 J R2 U2 W2 ?_ ?_ ?_ (fun a k h1 h2 h3 h4 h5 h6 h7 => ?_) (fun k hk => ?_) fJ
        · rw [g1 91 0 (by decide) (by decide) (by decide) (by decide) (by omega) (by omega)]; exact z0
        · rw [g1 91 2 (by decide) (by decide) (by decide) (by decide) (by omega) (by omega)]; exact z2
        · rw [g1 91 10 (by decide) (by decide) (by decide) (by decide) (by omega) (by omega)]; exact z10
        · rw [g1 a k h1 h2 h3 h5 h6 (by omega)]; exact f a k h4 (by omega)
        · rw [g2 k hk]; exact f 93 k (by decide) (by omega)
    · have e : ¬ t.1 = 0 := fun z => q (by rw [z]; rfl)
      rw [if_neg e] at h
      refine M_readBookLine hM R (RM.1 0 (by decide)) w.1 N e47 hc2 ?_
      cases hp : pBl (nxT tp sz lm) hd nm cn t with
      | error er =>
        rw [hp] at h
        intro I' J' a1 a2 a3
        refine br_t rfl ?_
        rw [a2]
        refine h I' J' ?_ ?_ a1 (fun a k h1 h2 => ?_) (fun c k h1 => ?_)
        · rw [a3.1 91 0 (by decide) (by omega)]; exact z0
        · rw [a3.1 91 2 (by decide) (by omega)]; exact z2
        · rw [a3.1 a k h1 (by omega)]; exact f a k h1 h2
        · rw [a3.2 c k h1]; exact fJ c k h1
      | ok p =>
        rw [hp] at h
        have po := pBl_ok hp
        intro I' J' R' L' g1 g2 g3
        refine br_f (by decide) ?_
        have e47' : I' 91 47 = nI cn := by rw [g3.1 91 47 (by decide) (by omega)]; exact e47
        rw [e47', nI_1]
        have o : ∀ a k, ¬ (a = 91 ∧ k = 47) → u2 I' 91 47 (nI (cn + 1)) a k = I' a k := fun a k hk => by simp only [u2]; rw [if_neg hk]
        have o9 : ∀ a k, a ≠ 113 → ¬ (a = 91 ∧ ((5 ≤ k ∧ k ≤ 11) ∨ k = 13 ∨ k = 47)) → u2 I' 91 47 (nI (cn + 1)) a k = I a k := fun a k h1 h2 => by rw [o a k (by omega)]; exact g3.1 a k h1 (by omega)
        refine ih (cn + 1) (upL ls cn p.1) p.2 _ J' (by omega) (by have := po.2; omega) (fun i => ?_) (rP_of R' (fun k _ _ => o 91 k (by omega)) (fun j => o 92 j (by omega)) rfl) (rM_fr RM (fun k => o9 93 k (by decide) (by omega))) (rNm_of N (fun k => g3.2 98 k (by omega))) ⟨(o9 91 27 (by decide) (by omega)).trans U.1, U.2.1, fun i j hi hj => (o9 96 _ (by decide) (by omega)).trans (U.2.2 i j hi hj)⟩ (u2_s _ _ _ _) (fun l hl => ?_) ?_ ?_ ?_ (fun a k h1 h2 => ?_) (fun c k h1 => ?_) h
        · unfold upL
          split
          · exact po.1
          · exact ok i
        · have o3 : ∀ k, u2 I' 91 47 (nI (cn + 1)) 113 k = I' 113 k := fun k => o 113 k (by omega)
          unfold upL
          by_cases c : l = cn
          · rw [if_pos c, c]
            unfold rLn at L' ⊢
            simp only [o3]
            exact L'
          · rw [if_neg c]
            have := L l (by omega)
            unfold rLn at this ⊢
            simp only [o3, g1 (6 * l) (by omega), g1 (6 * l + 1) (by omega), g1 (6 * l + 2) (by omega), g1 (6 * l + 3) (by omega), g1 (6 * l + 4) (by omega), g1 (6 * l + 5) (by omega)]
            exact this
        · rw [o9 91 0 (by decide) (by omega)]; exact z0
        · rw [o9 91 2 (by decide) (by omega)]; exact z2
        · rw [o 91 10 (by omega), g2]; exact z10
        · rw [o9 a k h1 (by omega)]; exact f a k h1 h2
        · rw [g3.2 c k h1]; exact fJ c k h1
theorem M_book {c tl : Nat} {us : Nat → Nat → Nat} (x : Int32) (hM : shM P K) (R : rM I hd so) (w : wf hd so) (N : rNm J hd nm) (T : rT I tl tp) (U : rU I c us) (h0 : inB x 2 = false → F (-1000) (u2 I 91 0 0) J) (h : ∀ lv, lv < 2 → x = nI lv → bkPost I J hd so c us lv F (pBook hd nm tp tl)) : ckI G (d + 8) mX12_book [.ref 91, .int x] I J P K n F := by
  refine bX12_book_0 hM _ (M_isIn _ _ _ ?_)
  rw [isB01]
  refine b01n h0 (fun e => ?_)
  obtain ⟨lv, hlv, rfl⟩ := inB_t e
  have hh := h lv hlv rfl
  refine M_begin (lm := 400) (by decide) hM (rT_91 T 0) (fun I1 J1 R1 e0 e2 e10 f1 => ?_)
  have o : ∀ a k, ¬ (a = 91 ∧ k = 47) → u2 I1 91 47 0 a k = I1 a k := fun a k hk => by simp only [u2]; rw [if_neg hk]
  have o9 : ∀ a k, ¬ (a = 91 ∧ (k = 0 ∨ (2 ≤ k ∧ k ≤ 10) ∨ k = 47)) → u2 I1 91 47 0 a k = I a k := fun a k hk => by
    rw [o a k (by omega), f1.1 a k (by omega)]; simp only [u2]; rw [if_neg (by omega)]
  exact M_book30 hM hlv w 41 0 (fun _ => bL0) _ _ J1 rfl (by decide) (fun _ => okB_0 hd) (rP_of R1 (fun k _ _ => o 91 k (by omega)) (fun j => o 92 j (by omega)) rfl) (rM_fr R (fun k => o9 93 k (by omega))) (rNm_of N (fun k => f1.2 98 k (by omega))) ⟨(o9 91 27 (by omega)).trans U.1, U.2.1, fun i j hi hj => (o9 96 _ (by omega)).trans (U.2.2 i j hi hj)⟩ (u2_s _ _ _ _) (fun l hl => absurd hl (Nat.not_lt_zero l)) ((o 91 0 (by omega)).trans e0) ((o 91 2 (by omega)).trans e2) ((o 91 10 (by omega)).trans e10) (fun a k h1 h2 => o9 a k (by omega)) f1.2 hh
end ModBook5
