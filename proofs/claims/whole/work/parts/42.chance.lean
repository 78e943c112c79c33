/-! the reference: chance -/
theorem u_nI (u : UInt32) : u.toInt32 = nI u.toNat := by
  apply Int32.toBitVec_inj.mp
  apply BitVec.eq_of_toNat_eq
  simp [nI, Int32.ofNat, UInt32.toInt32]
def pv (s : Int32) (m : Nat) : Nat := s.toUInt32.toNat / 256 % m
theorem sh8 (y : Int32) : (y.toUInt32 >>> ((8 : Int32).toUInt32 &&& Int32.toUInt32 31)).toInt32 = nI (y.toUInt32.toNat / 256) := by
  rw [u_nI]
  congr 1
  have e : (8 : Int32).toUInt32 &&& Int32.toUInt32 31 = 8 := by decide
  rw [e, UInt32.toNat_shiftRight, Nat.shiftRight_eq_div_pow]
  rfl
theorem pv_lt (s : Int32) {m : Nat} (h : 0 < m) : pv s m < m := Nat.mod_lt _ h
/-- an act, if it can be -/
def dif (hd so : Nat → Nat) (t x y z : Nat) : Nat → Nat := if aWhy hd so t x y z = 0 then aLive hd so t x y z else so
theorem wf_dif {hd so : Nat → Nat} (w : wf hd so) {t x y z : Nat} (ok : aOk hd t x y z) : wf hd (dif hd so t x y z) := by
  unfold dif
  split
  · exact wf_live w ok (by assumption)
  · exact w
theorem live_0 {hd so : Nat → Nat} (w : wf hd so) {t x y z : Nat} (ok : aOk hd t x y z) (hw : aWhy hd so t x y z = 0) : aLive hd so t x y z 0 = so 0 := by
  have hc := wf_casks w
  rcases ok with ⟨e, h1, h2⟩ | ⟨e, h1⟩ | e | ⟨e, h1, h2, h3⟩
  · subst e
    show aDraw so x z 0 = so 0
    unfold aDraw
    rw [up_n _ _ (by decide), up_n _ _ (by omega), rg_out _ _ _ (by omega), tak_lo (by decide)]
  · subst e
    show aRun hd so x 0 = so 0
    have q := wRun_0 h1 (show wRun hd so x = 0 from hw)
    exact (wf_run w q.1 q.2).2
  · subst e
    show aTop hd so 0 = so 0
    have h0 : 0 < hd 0 := by
      have : wTop hd so = 0 := hw
      unfold wTop at this
      split at this
      · cases this
      · omega
    exact (wf_top w h0 _ (Nat.le_refl _)).2
  · subst e
    show aTip so x y z 0 = so 0
    unfold aTip
    rw [ptt_lo (by decide), tak_lo (by decide)]
theorem dif_0 {hd so : Nat → Nat} (w : wf hd so) {t x y z : Nat} (ok : aOk hd t x y z) : dif hd so t x y z 0 = so 0 := by
  unfold dif
  split
  · exact live_0 w ok (by assumption)
  · rfl
def pk1 (nx : Int32 → Int32) (hd : Nat → Nat) (p : Int32 × (Nat → Nat)) : Int32 × (Nat → Nat) :=
  if pv (nx p.1) 6 < 2 then (nx (nx (nx p.1)), dif hd p.2 0 (pv (nx (nx p.1)) (hd 1)) 0 (pv (nx (nx (nx p.1))) 40 + 1))
  else if pv (nx p.1) 6 = 2 then (nx (nx p.1), dif hd p.2 1 (pv (nx (nx p.1)) (hd 0)) 0 0)
  else if pv (nx p.1) 6 = 3 then (nx p.1, dif hd p.2 2 0 0 0)
  else if pv (nx p.1) 6 = 4 then (nx (nx (nx (nx p.1))), dif hd p.2 3 (pv (nx (nx p.1)) (hd 1)) (pv (nx (nx (nx p.1))) (hd 1)) (pv (nx (nx (nx (nx p.1)))) 20 + 1))
  else (nx p.1, p.2)
def pkY (nx : Int32 → Int32) (hd : Nat → Nat) (p : Int32 × (Nat → Nat)) : Int32 × (Nat → Nat) :=
  let q := if hd 0 = 0 then p else it (fun _ p => pk1 nx hd p) 4 p
  (q.1, aYear hd q.2)
def pkYs (nx : Int32 → Int32) (hd : Nat → Nat) (m : Nat) (p : Int32 × (Nat → Nat)) : Int32 × (Nat → Nat) := it (fun _ p => pkY nx hd p) m p
theorem hd1_pos {hd so : Nat → Nat} (w : wf hd so) (h0 : 0 < hd 0) : 0 < hd 1 := by
  have a := wf_in w h0 (i := 0) (by have := (w.2.1 0 h0).1; omega)
  omega
theorem pk1_inv {nx : Int32 → Int32} {hd : Nat → Nat} {p : Int32 × (Nat → Nat)} (w : wf hd p.2) (h0 : 0 < hd 0) : wf hd (pk1 nx hd p).2 ∧ (pk1 nx hd p).2 0 = p.2 0 := by
  have h1 := hd1_pos w h0
  have ok0 : aOk hd 0 (pv (nx (nx p.1)) (hd 1)) 0 (pv (nx (nx (nx p.1))) 40 + 1) := Or.inl ⟨rfl, pv_lt _ h1, by have := pv_lt (nx (nx (nx p.1))) (m := 40) (by decide); omega⟩
  have ok1 : aOk hd 1 (pv (nx (nx p.1)) (hd 0)) 0 0 := Or.inr (Or.inl ⟨rfl, pv_lt _ h0⟩)
  have ok2 : aOk hd 2 0 0 0 := Or.inr (Or.inr (Or.inl rfl))
  have ok3 : aOk hd 3 (pv (nx (nx p.1)) (hd 1)) (pv (nx (nx (nx p.1))) (hd 1)) (pv (nx (nx (nx (nx p.1)))) 20 + 1) := Or.inr (Or.inr (Or.inr ⟨rfl, pv_lt _ h1, pv_lt _ h1, by have := pv_lt (nx (nx (nx (nx p.1)))) (m := 20) (by decide); omega⟩))
  unfold pk1
  split
  · exact ⟨wf_dif w ok0, dif_0 w ok0⟩
  split
  · exact ⟨wf_dif w ok1, dif_0 w ok1⟩
  split
  · exact ⟨wf_dif w ok2, dif_0 w ok2⟩
  split
  · exact ⟨wf_dif w ok3, dif_0 w ok3⟩
  · exact ⟨w, rfl⟩
theorem pk4_inv {nx : Int32 → Int32} {hd : Nat → Nat} {p : Int32 × (Nat → Nat)} (w : wf hd p.2) (h0 : 0 < hd 0) : ∀ i, i ≤ 4 → wf hd (it (fun _ p => pk1 nx hd p) i p).2 ∧ (it (fun _ p => pk1 nx hd p) i p).2 0 = p.2 0 :=
  it_inv (f := fun _ p => pk1 nx hd p) (a := p) (fun _ q => wf hd q.2 ∧ q.2 0 = p.2 0) ⟨w, rfl⟩ (fun k _ b hb => by
    have := pk1_inv (nx := nx) hb.1 h0
    exact ⟨this.1, this.2.trans hb.2⟩)
theorem pkY_inv {nx : Int32 → Int32} {hd : Nat → Nat} {p : Int32 × (Nat → Nat)} (w : wf hd p.2) (hy : p.2 0 < 39) : wf hd (pkY nx hd p).2 ∧ (pkY nx hd p).2 0 = p.2 0 + 1 := by
  by_cases q : hd 0 = 0
  · have e : pkY nx hd p = (p.1, aYear hd p.2) := by simp only [pkY, q, if_true]
    rw [e]
    exact ⟨wf_year w hy, aYear_0 hd p.2⟩
  · have e : pkY nx hd p = ((it (fun _ p => pk1 nx hd p) 4 p).1, aYear hd (it (fun _ p => pk1 nx hd p) 4 p).2) := by simp only [pkY, q, if_false]
    rw [e]
    have a := pk4_inv (nx := nx) w (by omega) 4 (Nat.le_refl _)
    refine ⟨wf_year a.1 (by rw [a.2]; exact hy), ?_⟩
    show aYear hd _ 0 = _
    rw [aYear_0, a.2]
theorem pkYs_inv {nx : Int32 → Int32} {hd : Nat → Nat} {p : Int32 × (Nat → Nat)} (w : wf hd p.2) {m : Nat} (hm : p.2 0 + m ≤ 39) : ∀ k, k ≤ m → wf hd (pkYs nx hd k p).2 ∧ (pkYs nx hd k p).2 0 = p.2 0 + k :=
  it_inv (f := fun _ p => pkY nx hd p) (a := p) (fun k q => wf hd q.2 ∧ q.2 0 = p.2 0 + k) ⟨w, rfl⟩ (fun k hk b hb => by
    have := pkY_inv (nx := nx) hb.1 (by omega)
    exact ⟨this.1, by have e := this.2; show (pkY nx hd b).2 0 = _; omega⟩)
def frG (I I' : sI) : Prop := (∀ c k, c ≠ 93 → ¬ (102 ≤ c ∧ c ≤ 107) → ¬ (c = 91 ∧ k = 44) → I' c k = I c k) ∧ ∀ k, k < 815 ∨ 1678 ≤ k → I' 93 k = I 93 k
theorem frG_rf (I : sI) : frG I I := ⟨fun _ _ _ _ _ => rfl, fun _ _ => rfl⟩
theorem frG_tr {I I' I2 : sI} (h : frG I I') (h2 : frG I' I2) : frG I I2 := ⟨fun c k a b e => (h2.1 c k a b e).trans (h.1 c k a b e), fun k a => (h2.2 k a).trans (h.2 k a)⟩
theorem frG_93 {I I' : sI} (h : fr93 I I') : frG I I' := ⟨fun c k a b _ => h.1 c k a b, h.2⟩
theorem frG_44 (I : sI) (v : Int32) : frG I (u2 I 91 44 v) := ⟨fun c k _ _ e => by simp only [u2]; rw [if_neg e], fun k _ => u2_a _ _ _ _ (by decide)⟩
section ModChance
variable {G : gG} {d : Nat} {I : sI} {J : sJ} {P : sP} {K : sK} {n : Nat} {F : Int32 → sI → sJ → Prop} {FV : sI → sJ → Prop} {hd so : Nat → Nat} {nx : Int32 → Int32}
theorem M_pick {s : Int32} (m : Nat) (hm : 0 < m) (hm2 : m < 2147483648) (hn : ∀ s : Int32, nx s = s * 1103515245 + 12345) (hM : shM P K) (S : I 91 44 = s) (h : F (nI (pv (nx s) m)) (u2 I 91 44 (nx s)) J) : ckI G d mX12_pick [.ref 91, .int (nI m)] I J P K n F := by
  refine bX12_pick_0 hM _ ⟨nI_ne0 hm hm2, ?_⟩
  have hs : (nx s).toUInt32.toNat < 4294967296 := (nx s).toUInt32.toNat_lt
  rw [S, sh8]
  have e : s * 1103515245 + 12345 = nx s := (hn s).symm
  rw [e, i_rem (by omega) hm hm2]
  exact h
theorem M_pickAt {s y : Int32} {m : Nat} (hy : y = nI m) (hm : 0 < m) (hm2 : m < 2147483648) (hn : ∀ s : Int32, nx s = s * 1103515245 + 12345) (hM : shM P K) (S : I 91 44 = s) (R : rM I hd so) (h : ∀ I', I' = u2 I 91 44 (nx s) → I' 91 44 = nx s → rM I' hd so → F (nI (pv (nx s) m)) I' J) : ckI G d mX12_pick [.ref 91, .int y] I J P K n F := by
  rw [hy]
  exact M_pick m hm hm2 hn hM S (h _ rfl (u2_s _ _ _ _) (rM_91 R 44 _))
theorem M_picksOne {s : Int32} (hn : ∀ s : Int32, nx s = s * 1103515245 + 12345) (hM : shM P K) (S : I 91 44 = s) (R : rM I hd so) (w : wf hd so) (h0 : 0 < hd 0) (h : ∀ I', I' 91 44 = (pk1 nx hd (s, so)).1 → rM I' hd (pk1 nx hd (s, so)).2 → frG I I' → FV I' J) : ckV G (d + 8) mX12_picksOne [.ref 91] I J P K n FV := by
  have h1 := hd1_pos w h0
  have hc := wf_casks w
  have h5 := w.1
  have hp6 := pv_lt (nx s) (m := 6) (by decide)
  unfold pk1 at h
  refine bX12_picksOne_0 hM (M_pickAt (m := 6) rfl (by decide) (by decide) hn hM S R (fun I1 e1 S1 R1 => ?_))
  have f1 : frG I I1 := by rw [e1]; exact frG_44 _ _
  -- the tail, where nothing more is done
  have t73 : ∀ I', pv (nx s) 6 ≠ 4 → FV I' J → Ok G (d + 8) mX12_picksOne 73 [some (.ref 91), some (.int (nI (pv (nx s) 6))), none, none] [] I' J P K n (kV P K n FV) := fun I' q hh =>
    bX12_picksOne_73 hM _ (br_f (fun e => q ((nI_eq (b := 4) (by omega) (by decide)).mp e)) hh)
  have t60 : ∀ I', pv (nx s) 6 ≠ 3 → pv (nx s) 6 ≠ 4 → FV I' J → Ok G (d + 8) mX12_picksOne 60 [some (.ref 91), some (.int (nI (pv (nx s) 6))), none, none] [] I' J P K n (kV P K n FV) := fun I' q q2 hh =>
    bX12_picksOne_60 hM _ (br_f (fun e => q ((nI_eq (b := 3) (by omega) (by decide)).mp e)) (t73 I' q2 hh))
  by_cases q : pv (nx s) 6 < 2
  · simp only [q, if_true] at h
    refine br_f (nI_ge (b := 2) q (by decide)) (M_pickAt (R1.1 1 (by decide)) h1 (by omega) hn hM S1 R1 (fun I2 e2 S2 R2 => M_pickAt (m := 40) rfl (by decide) (by decide) hn hM S2 R2 (fun I3 e3 S3 R3 => ?_)))
    have f2 : frG I1 I2 := by rw [e2]; exact frG_44 _ _
    have f3 : frG I2 I3 := by rw [e3]; exact frG_44 _ _
    have ok0 : aOk hd 0 (pv (nx (nx s)) (hd 1)) 0 (pv (nx (nx (nx s))) 40 + 1) := Or.inl ⟨rfl, pv_lt _ h1, by have := pv_lt (nx (nx (nx s))) (m := 40) (by decide); omega⟩
    rw [nI_1]
    refine M_doIf (t := 0) (y := 0) hM R3 w ok0 (fun I4 R4 f4 => bX12_picksOne_38 hM _ (br_f (fun e => ?_) (t60 I4 (by omega) (by omega) (h I4 ?_ R4 (frG_tr f1 (frG_tr f2 (frG_tr f3 (frG_93 f4))))))))
    · have := (nI_eq (b := 2) (by omega) (by decide)).mp e; omega
    · rw [f4.1 91 44 (by decide) (by omega)]; exact S3
  · simp only [q, if_false] at h
    refine br_t (nI_le (a := 2) (by omega) (by omega)) ?_
    by_cases q2 : pv (nx s) 6 = 2
    · simp only [q2, if_true] at h
      refine bX12_picksOne_38 hM _ (br_t (by rw [q2]; rfl) (M_pickAt (R1.1 0 (by decide)) h0 (by omega) hn hM S1 R1 (fun I2 e2 S2 R2 => ?_)))
      have f2 : frG I1 I2 := by rw [e2]; exact frG_44 _ _
      refine M_doIf (t := 1) (y := 0) (z := 0) hM R2 w (Or.inr (Or.inl ⟨rfl, pv_lt _ h0⟩)) (fun I4 R4 f4 => t60 I4 (by omega) (by omega) (h I4 ?_ R4 (frG_tr f1 (frG_tr f2 (frG_93 f4)))))
      rw [f4.1 91 44 (by decide) (by omega)]; exact S2
    · simp only [q2, if_false] at h
      refine bX12_picksOne_38 hM _ (br_f (fun e => q2 ((nI_eq (b := 2) (by omega) (by decide)).mp e)) ?_)
      by_cases q3 : pv (nx s) 6 = 3
      · simp only [q3, if_true] at h
        refine bX12_picksOne_60 hM _ (br_t (by rw [q3]; rfl) (M_doIf (t := 2) (x := 0) (y := 0) (z := 0) hM R1 w (Or.inr (Or.inr (Or.inl rfl))) (fun I4 R4 f4 => t73 I4 (by omega) (h I4 ?_ R4 (frG_tr f1 (frG_93 f4))))))
        rw [f4.1 91 44 (by decide) (by omega)]; exact S1
      · simp only [q3, if_false] at h
        refine bX12_picksOne_60 hM _ (br_f (fun e => q3 ((nI_eq (b := 3) (by omega) (by decide)).mp e)) ?_)
        by_cases q4 : pv (nx s) 6 = 4
        · simp only [q4, if_true] at h
          refine bX12_picksOne_73 hM _ (br_t (by rw [q4]; rfl) (M_pickAt (R1.1 1 (by decide)) h1 (by omega) hn hM S1 R1 (fun I2 e2 S2 R2 => M_pickAt (R2.1 1 (by decide)) h1 (by omega) hn hM S2 R2 (fun I3 e3 S3 R3 => M_pickAt (m := 20) rfl (by decide) (by decide) hn hM S3 R3 (fun I4 e4 S4 R4 => ?_)))))
          have f2 : frG I1 I2 := by rw [e2]; exact frG_44 _ _
          have f3 : frG I2 I3 := by rw [e3]; exact frG_44 _ _
          have f4 : frG I3 I4 := by rw [e4]; exact frG_44 _ _
          rw [nI_1]
          refine M_doIf (t := 3) hM R4 w (Or.inr (Or.inr (Or.inr ⟨rfl, pv_lt _ h1, pv_lt _ h1, by have := pv_lt (nx (nx (nx (nx s)))) (m := 20) (by decide); omega⟩))) (fun I5 R5 f5 => h I5 ?_ R5 (frG_tr f1 (frG_tr f2 (frG_tr f3 (frG_tr f4 (frG_93 f5))))))
          rw [f5.1 91 44 (by decide) (by omega)]; exact S4
        · simp only [q4, if_false] at h
          exact t73 I1 q4 (h I1 S1 R1 f1)
theorem M_pickYears {m : Nat} (x : Int32) (hm : m < 2147483648) (hn : ∀ s : Int32, nx s = s * 1103515245 + 12345) (hM : shM P K) (R : rM I hd so) (w : wf hd so) (h : ∀ I', rM I' hd (pkYs nx hd (if m ≤ 39 - so 0 then m else 39 - so 0) (x, so)).2 → frG I I' → F (nI (if m ≤ 39 - so 0 then m else 39 - so 0)) I' J) : ckI G (d + 9) mX12_pickYears [.ref 91, .int (nI m), .int x] I J P K n F := by
  have hy : so 0 ≤ 39 := w.2.2.2.2.2.2.1
  have h5 := w.1
  have e0 : (39 - I 93 815 : Int32) = nI (39 - so 0) := by
    rw [rM_year R]
    exact i_sub (a := 39) hy
  refine bX12_pickYears_0 hM _ _ ?_
  rw [e0]
  refine M_least m (39 - so 0) hm (by omega) ?_
  obtain ⟨k, hk⟩ : ∃ k, (if m ≤ 39 - so 0 then m else 39 - so 0) = k := ⟨_, rfl⟩
  have hk2 : so 0 + k ≤ 39 := by rw [← hk]; split <;> omega
  rw [hk] at h ⊢
  have vI := pkYs_inv (nx := nx) (p := (x, so)) w (m := k) hk2
  have key := loopN k (fun i => ∀ I', I' 91 44 = (pkYs nx hd i (x, so)).1 → rM I' hd (pkYs nx hd i (x, so)).2 → frG I I' → Ok G (d + 9) mX12_pickYears 24 [some (.ref 91), none, none, some (.int (nI k)), some (.int (nI i)), none] [] I' J P K n (kI P K n F)) ?_ ?_ 0 (by omega)
  · exact key _ (u2_s _ _ _ _) (rM_91 R 44 x) (frG_44 _ _)
  · intro I' _ R' f
    exact bX12_pickYears_24 _ _ (br_t (nI_le (Nat.le_refl _) (by omega)) (h I' R' f))
  · intro i hi ih I' S' R' f
    have iv := vI i (by omega)
    obtain ⟨p, hp⟩ : ∃ p, pkYs nx hd i (x, so) = p := ⟨_, rfl⟩
    have e : pkYs nx hd (i + 1) (x, so) = pkY nx hd p := by rw [← hp]; rfl
    rw [e] at ih
    rw [hp] at S' R' iv
    have ivy : p.2 0 = so 0 + i := iv.2
    refine bX12_pickYears_24 _ _ (br_f (nI_ge hi (by omega)) ?_)
    by_cases q : hd 0 = 0
    · have e2 : pkY nx hd p = (p.1, aYear hd p.2) := by simp only [pkY, q, if_true]
      rw [e2] at ih
      refine bX12_pickYears_33 hM _ _ _ (br_f (by decide) ?_)
      rw [R'.1 0 (by decide), q, nI_1]
      refine br_t (by decide) (M_oneYear hM R' iv.1 (by omega) (fun I2 R2 f2 => ih I2 ?_ R2 (frG_tr f (frG_93 f2))))
      rw [f2.1 91 44 (by decide) (by omega)]; exact S'
    · have e2 : pkY nx hd p = ((it (fun _ p => pk1 nx hd p) 4 p).1, aYear hd (it (fun _ p => pk1 nx hd p) 4 p).2) := by simp only [pkY, q, if_false]
      rw [e2] at ih
      have v4 := pk4_inv (nx := nx) iv.1 (by omega)
      have key2 := loopN 4 (fun j => ∀ I', I' 91 44 = (it (fun _ p => pk1 nx hd p) j p).1 → rM I' hd (it (fun _ p => pk1 nx hd p) j p).2 → frG I I' → Ok G (d + 9) mX12_pickYears 33 [some (.ref 91), none, none, some (.int (nI k)), some (.int (nI i)), some (.int (nI j))] [] I' J P K n (kI P K n F)) ?_ ?_ 0 (by omega)
      · exact key2 I' S' R' f
      · intro I1 S1 R1 f1
        have a := v4 4 (Nat.le_refl _)
        refine bX12_pickYears_33 hM _ _ _ (br_t (by decide) (M_oneYear hM R1 a.1 (by omega) (fun I2 R2 f2 => ?_)))
        rw [nI_1]
        refine ih I2 ?_ R2 (frG_tr f1 (frG_93 f2))
        rw [f2.1 91 44 (by decide) (by omega)]; exact S1
      · intro j hj ih2 I1 S1 R1 f1
        have a := v4 j (by omega)
        refine bX12_pickYears_33 hM _ _ _ (br_f (nI_ge (b := 4) hj (by decide)) ?_)
        rw [R1.1 0 (by decide), nI_1 j]
        exact br_f (nI_ge (a := 0) (by omega) (by omega)) (M_picksOne hn hM S1 R1 a.1 (by omega) (fun I2 S2 R2 f2 => ih2 I2 S2 R2 (frG_tr f1 f2)))
/-- what drawn changes -/
def frDG (I I' : sI) : Prop := (∀ c k, c ≠ 93 → c ≠ 96 → ¬ (102 ≤ c ∧ c ≤ 107) → ¬ (c = 91 ∧ (k = 27 ∨ k = 44)) → I' c k = I c k) ∧ ∀ k, k < 815 ∨ 1678 ≤ k → I' 93 k = I 93 k
theorem rU_G {I I' : sI} {c : Nat} {us : Nat → Nat → Nat} (U : rU I c us) (f : frG I I') : rU I' c us := ⟨(f.1 91 27 (by decide) (by omega) (by omega)).trans U.1, U.2.1, fun i j hi hj => (f.1 96 _ (by decide) (by omega) (by omega)).trans (U.2.2 i j hi hj)⟩
def sDrawn (nx : Int32 → Int32) (hd so : Nat → Nat) (m x : Int32) : Nat → Nat := if isB m 1 39 && decide (so 0 ≠ 39) then (pkYs nx hd (if cl m ≤ 39 - so 0 then cl m else 39 - so 0) (x, so)).2 else so
theorem M_drawn {c : Nat} {us : Nat → Nat → Nat} (m x : Int32) (hn : ∀ s : Int32, nx s = s * 1103515245 + 12345) (hM : shM P K) (R : rM I hd so) (w : wf hd so) (U : rU I c us) (h : ∀ I', rM I' hd (sDrawn nx hd so m x) → rU I' (psC (isB m 1 39 && decide (so 0 ≠ 39)) c) (psU (isB m 1 39 && decide (so 0 ≠ 39)) us so) → frDG (u2 I 91 0 0) I' → F (vYears so m) I' J) : ckI G (d + 10) mX12_drawn [.ref 91, .int m, .int x] I J P K n F := by
  have R1 := rM_91 R 0 0
  have U1 := rU_91 U 0
  have hy : so 0 ≤ 39 := w.2.2.2.2.2.2.1
  have fr : frDG (u2 I 91 0 0) (u2 I 91 0 0) := ⟨fun _ _ _ _ _ _ => rfl, fun _ _ => rfl⟩
  unfold sDrawn vYears at h
  refine bX12_drawn_0 hM _ _ (M_isIn _ _ _ (b01n (fun e => ?_) (fun e => ?_)))
  · simp only [e, Bool.false_and, Bool.false_eq_true, if_false, psC, psU] at h
    exact h _ R1 U1 fr
  · rw [rM_year R1]
    simp only [e, Bool.true_and, if_true] at h
    by_cases q : so 0 = 39
    · simp only [q, ne_eq, not_true, decide_false, Bool.false_eq_true, if_false, if_true, psC, psU] at h
      exact br_t (by rw [q]; rfl) (h _ R1 U1 fr)
    · obtain ⟨m, hm1, hm2, rfl⟩ := isB_t (a := 1) (b := 39) (by decide) (by decide) e
      rw [cl_nI (by omega)] at h
      simp only [q, ne_eq, not_false_eq_true, decide_true, if_true, if_false, psC, psU] at h
      refine br_f (fun e => q ((nI_eq (b := 39) (by omega) (by decide)).mp e)) (M_snap hM R1.2 U1 (fun I1 U2 f1 => M_pickYears x (by omega) hn hM (rM_U R1 f1) w (fun I2 R2 f2 => h I2 R2 (rU_G U2 f2) ⟨fun c k a1 a2 a3 a4 => ?_, fun k hk => ?_⟩)))
      · rw [f2.1 c k a1 a3 (by omega)]; exact f1 c k a2 (by omega)
      · rw [f2.2 k hk]; exact f1 93 k (by decide) (by omega)
def frO (I I' : sI) : Prop := ∀ c k, c ≠ 97 → ¬ (102 ≤ c ∧ c ≤ 107) → ¬ (c = 91 ∧ k = 44) → I' c k = I c k
def oddB (nx : Int32 → Int32) (hd so : Nat → Nat) (k : Nat) (x : Int32) (i : Nat) : Bool := decide (lck hd (pkYs nx hd (if 3 ≤ 39 - so 0 then 3 else 39 - so 0) (x + nI i, so)).2 k = 0)
def vOdds (nx : Int32 → Int32) (hd so : Nat → Nat) (k m x : Int32) : Int32 := if inB k (hd 1) && isB m 1 20 then nI (sm (fun i => if oddB nx hd so (cl k) x i then 1 else 0) (cl m)) else -1
theorem M_odds (y m x : Int32) (hn : ∀ s : Int32, nx s = s * 1103515245 + 12345) (hM : shM P K) (R : rM I hd so) (w : wf hd so) (h : ∀ I', frO (u2 I 91 0 0) I' → F (vOdds nx hd so y m x) I' J) : ckI G (d + 10) mX12_odds [.ref 91, .int y, .int m, .int x] I J P K n F := by
  have R1 := rM_91 R 0 0
  have hy : so 0 ≤ 39 := w.2.2.2.2.2.2.1
  have hc := wf_casks w
  unfold vOdds at h
  refine bX12_odds_0 hM _ _ _ (M_isCask y hM R1 w (b01n (fun e => ?_) (fun e => M_isIn _ _ _ (b01n (fun e2 => ?_) (fun e2 => ?_)))))
  · simp only [e, Bool.false_and, Bool.false_eq_true, if_false] at h
    exact h _ (fun _ _ _ _ _ => rfl)
  · simp only [e2, Bool.and_false, Bool.false_eq_true, if_false] at h
    exact h _ (fun _ _ _ _ _ => rfl)
  · obtain ⟨k, hk, rfl⟩ := inB_t e
    obtain ⟨m, hm1, hm2, rfl⟩ := isB_t (a := 1) (b := 20) (by decide) (by decide) e2
    rw [cl_nI (by omega), cl_nI (by omega)] at h
    simp only [e, e2, Bool.and_self, if_true] at h
    refine M_layAside hM R1.2 (fun I1 A f1 => ?_)
    have key := loopN m (fun i => ∀ I', (∀ j, j < 863 → I' 97 j = nI (so j)) → frO (u2 I 91 0 0) I' → Ok G (d + 10) mX12_odds 35 [some (.ref 91), some (.int (nI k)), some (.int (nI m)), some (.int x), some (.int (nI (sm (fun i => if oddB nx hd so k x i then 1 else 0) i))), some (.int (nI i))] [] I' J P K n (kI P K n F)) ?_ ?_ 0 (by omega)
    · exact key I1 A (fun a k h1 _ _ => f1 a k h1)
    · intro I' _ f'
      exact bX12_odds_35 hM _ _ _ _ _ (br_t (nI_le (Nat.le_refl _) (by omega)) (h I' f'))
    · intro i hi ih I' A' f'
      have R' : rM I' hd so := ⟨fun k hk => (f' 93 k (by decide) (by omega) (by omega)).trans (R1.1 k hk), fun j hj => (f' 93 _ (by decide) (by omega) (by omega)).trans (R1.2 j hj)⟩
      refine bX12_odds_35 hM _ _ _ _ _ (br_f (nI_ge hi (by omega)) (M_pickYears (m := 3) (x + nI i) (by decide) hn hM R' w (fun I2 R2 f2 => ?_)))
      have w2 := (pkYs_inv (nx := nx) (p := (x + nI i, so)) w (m := if 3 ≤ 39 - so 0 then 3 else 39 - so 0) (by show so 0 + _ ≤ 39; split <;> omega) _ (Nat.le_refl _)).1
      have hl := lck_le w2 hk
      have A2 : ∀ j, j < 863 → I2 97 j = nI (so j) := fun j hj => (f2.1 97 j (by decide) (by omega) (by omega)).trans (A' j hj)
      have fin : ∀ I3, soM I3 so → frS I2 I3 → (∀ j, j < 863 → I3 97 j = nI (so j)) ∧ frO (u2 I 91 0 0) I3 := by
        intro I3 h1 h2
        refine ⟨fun j hj => (h2 97 j (by omega)).trans (A2 j hj), fun c k a1 a2 a3 => ?_⟩
        by_cases q : c = 93 ∧ 815 ≤ k ∧ k < 1678
        · obtain ⟨e, e1, e2⟩ := q
          subst e
          have b1 := h1 (k - 815) (by omega)
          have b2 := R1.2 (k - 815) (by omega)
          rw [show 815 + (k - 815) = k by omega] at b1 b2
          rw [b1, b2]
        · rw [h2 c k q, ← f' c k a1 a2 a3]
          by_cases q2 : c = 93
          · subst q2; exact f2.2 k (by omega)
          · exact f2.1 c k q2 a2 a3
      refine M_lacks hM R2 w2 hk ?_
      simp only [sm] at ih
      rw [nI_1 i]
      by_cases q : lck hd (pkYs nx hd (if 3 ≤ 39 - so 0 then 3 else 39 - so 0) (x + nI i, so)).2 k = 0
      · have e : oddB nx hd so k x i = true := by simp only [oddB, q, decide_true]
        simp only [e, if_true] at ih
        refine br_t (by rw [q]; rfl) (M_takeBack hM A2 (fun I3 h1 h2 => ?_))
        rw [nI_1]
        exact ih I3 (fin I3 h1 h2).1 (fin I3 h1 h2).2
      · have e : oddB nx hd so k x i = false := by simp only [oddB, q, decide_false]
        simp only [e, Bool.false_eq_true, if_false, Nat.add_zero] at ih
        exact br_f (nI_ne0 (by omega) (by omega)) (M_takeBack hM A2 (fun I3 h1 h2 => ih I3 (fin I3 h1 h2).1 (fin I3 h1 h2).2))
end ModChance
