theorem isW_no {t : tokT} {j k : Nat} (h : isW t j = true) (hj : j < 22) (hk : k < 22) (hn : j ≠ k) : isW t k = false := by
  cases e : isW t k with
  | false => rfl
  | true => exact absurd (isW_inj hj hk h e) hn
def vbW (t : tokT) : Nat → Int32
  | 0 => if isW t 9 then 4 else -1
  | j + 1 => if isW t (5 + j) then nI j else vbW t j
def oWh (o : Option Nat) : Int32 := match o with
  | none => -1
  | some w => nI w
theorem vbW_4 (t : tokT) : vbW t 4 = oWh (wB t) := by
  unfold wB
  simp only [vbW, Nat.add_zero, show 5 + 3 = 8 from rfl, show 5 + 2 = 7 from rfl, show 5 + 1 = 6 from rfl]
  by_cases h5 : isW t 5 = true
  · rw [isW_no h5 (by decide) (by decide) (show 5 ≠ 8 by decide), isW_no h5 (by decide) (by decide) (show 5 ≠ 7 by decide), isW_no h5 (by decide) (by decide) (show 5 ≠ 6 by decide), h5]; rfl
  · rw [if_neg h5, if_neg h5]
    by_cases h6 : isW t 6 = true
    · rw [isW_no h6 (by decide) (by decide) (show 6 ≠ 8 by decide), isW_no h6 (by decide) (by decide) (show 6 ≠ 7 by decide), h6]; rfl
    · rw [if_neg h6, if_neg h6]
      by_cases h7 : isW t 7 = true
      · rw [isW_no h7 (by decide) (by decide) (show 7 ≠ 8 by decide), h7]; rfl
      · rw [if_neg h7, if_neg h7]
        by_cases h8 : isW t 8 = true
        · rw [h8]; rfl
        · rw [if_neg h8, if_neg h8]
          by_cases h9 : isW t 9 = true
          · rw [h9]; rfl
          · rw [if_neg h9, if_neg h9]; rfl
theorem nI_p2 (a : Nat) : nI a + 2 = nI (a + 2) := i_add a 2
theorem nI_p3 (a : Nat) : nI a + 3 = nI (a + 3) := i_add a 3
theorem nI_p5 (a : Nat) : nI a + 5 = nI (a + 5) := i_add a 5
theorem nI_m6 (a : Nat) : 6 * nI a = nI (6 * a) := i_mul 6 a
section ModBook3
variable {G : gG} {d : Nat} {I I0 : sI} {J J0 : sJ} {P : sP} {K : sK} {n : Nat} {F : Int32 → sI → sJ → Prop} {FV : sI → sJ → Prop} {sz lm : Nat} {tp : Nat → Nat} {t : tokT} {hd : Nat → Nat} {nm : Nat → List Nat}
theorem lPost_01 {l : Nat} {r : pE (bL × tokT)} (h : lPost I J sz lm tp l F r) : lPost I J sz lm tp l (fun v I' J' => (v = 0 → F 0 I' J') ∧ (¬ v = 0 → F 1 I' J')) r := by
  cases r with
  | error e => exact fun I' J' a b c => br_t rfl (h I' J' a b c)
  | ok p => exact fun I' J' a b c e f => br_f (by decide) (h I' J' a b c e f)
theorem lPost_or {l : Nat} {r : pE (bL × tokT)} (h : lPost I J sz lm tp l F r) : lPost I J sz lm tp l (fun v I' J' => (v = 0 ∨ v = 1) ∧ F v I' J') r := by
  cases r with
  | error e => exact fun I' J' a b c => ⟨Or.inl rfl, h I' J' a b c⟩
  | ok p => exact fun I' J' a b c e f => ⟨Or.inr rfl, h I' J' a b c e f⟩
theorem rNm_of {J J' : sJ} (N : rNm J hd nm) (h : ∀ k, J' 98 k = J 98 k) : rNm J' hd nm := fun s hs => ⟨(h s).trans (N s hs).1, (N s hs).2⟩
theorem M_readBookLine {l : Nat} (hM : shM P K) (R : rP I J sz lm tp t) (e0 : I 93 0 = nI (hd 0)) (h5 : hd 0 ≤ 5) (N : rNm J hd nm) (h47 : I 91 47 = nI l) (hl : l ≤ 40) (h : lPost I J sz lm tp l F (pBl (nxT tp sz lm) hd nm l t)) : ckI G (d + 5) mX12_readBookLine [.ref 91] I J P K n F := by
  have main : Ok G (d + 5) mX12_readBookLine 17 [some (.ref 91), some (.int (vbW t 4)), some (.int (nI 4))] [] I J P K n (kI P K n F) := by
    refine bX12_readBookLine_17 hM _ _ (br_t (nI_lt (a := 3) (b := 4) (by decide) (by decide)) ?_)
    rw [vbW_4, h47, nI_m6]
    unfold pBl at h
    cases hw : wB t with
    | none =>
      rw [hw] at h
      exact br_t rfl (M_bad 1 hM R.2.1 R.2.2 (fun I' a1 a2 a3 => ⟨Or.inl rfl, h I' J a1 a2 (frK_Q (frQ_bad a3))⟩))
    | some w =>
      rw [hw] at h
      have hw4 := wB_le hw
      refine br_f (nI_nm1 (by omega)) ⟨fun q => ?_, fun q => ?_⟩
      · have e : l = 40 := (nI_eq (by omega) (by decide)).mp q
        simp only [if_pos e] at h
        exact M_bad 4 hM R.2.1 R.2.2 (fun I' a1 a2 a3 => ⟨Or.inl rfl, h I' J a1 a2 (frK_Q (frQ_bad a3))⟩)
      · have e : ¬ l = 40 := fun z => q (by rw [z]; rfl)
        simp only [if_neg e] at h
        refine ⟨nI_inN (by omega) (by decide), ?_⟩
        rw [nI_ck (by omega), nI_1, nI_p3, nI_p5]
        have R1 : rP (u2 I 113 (6 * l) (nI w)) J sz lm tp t := rP_of R (fun k _ _ => u2_a _ _ _ _ (by decide)) (fun j => u2_a _ _ _ _ (by decide)) rfl
        refine M_next' hM R1 (fun I2 J2 R2 f => ?_)
        have fk : frK I I2 J J2 := frK_tr (I' := u2 I 113 (6 * l) (nI w)) (J' := J) ⟨fun c k a _ => u2_a _ _ _ _ a, fun _ _ _ => rfl⟩ (frK_Q (frQ_go f))
        have c0 : I2 113 (6 * l) = nI w := by rw [f.1 113 _ (by omega), u2_s]; rfl
        have cl' : ∀ k, k < 6 * l → I2 113 k = I 113 k := fun k hk => by rw [f.1 113 k (by omega), u2_k _ _ _ _ (by omega)]
        have e0' : I2 93 0 = nI (hd 0) := by rw [f.1 93 0 (by omega), u2_a _ _ _ _ (by decide)]; exact e0
        have N2 : rNm J2 hd nm := rNm_of N (fun k => f.2 98 k (by omega))
        have f10 : I2 91 10 = I 91 10 := by rw [f.1 91 10 (by omega), u2_a _ _ _ _ (by decide)]
        have hcs : w = 0 ∨ w = 1 ∨ w = 2 ∨ w = 3 ∨ w = 4 := by omega
        rcases hcs with rfl | rfl | rfl | rfl | rfl
        · refine ⟨fun _ => ?_, fun z => absurd z (by decide), fun z => absurd z (by decide), fun z => absurd z (by decide), fun z => absurd rfl z⟩
          refine M_readCask (c := 6 * l + 1) (by omega) hM R2 e0' h5 N2 ?_
          simp only [pBr] at h
          cases hp : pCk (nxT tp sz lm) hd nm (nxT tp sz lm t) with
          | error er => rw [hp] at h; exact fun I' J' a1 a2 a3 => br_t rfl (h I' J' a1 a2 (frK_tr fk a3))
          | ok p =>
            simp only [hp] at h
            intro I3 J3 R3 g1 g2 g3 g4 g5
            refine br_f (by decide) (M_readNumQ (a := 1) (b := 400) (by decide) (by decide) hM R3 (kPost_q (c := 6 * l + 5) (by omega) hM ?_))
            have fk3 := frK_tr fk g5
            cases hq : rdN (nxT tp sz lm) p.2 1 400 with
            | error er => simp only [hq] at h; exact fun I' J' a1 a2 a3 => br_t rfl (h I' J' a1 a2 (frK_tr fk3 a3))
            | ok z =>
              simp only [hq] at h
              intro I4 J4 R4 k1 k2 k3 k4
              refine br_f (by decide) (M_endB (I0 := I) (J0 := J) (b := (0, p.1.1, p.1.2, 0, 0, z.1)) hM R4 ⟨?_, fun _ => ?_, fun _ => ⟨?_, k1⟩, fun z => (by cases z), fun z => (by cases z)⟩ (fun k hk => ?_) ?_ (frK_tr fk3 k4) (lPost_01 h))
              · rw [k2 _ (by omega), g3 _ (by omega) (by omega)]; exact c0
              · rw [k2 _ (by omega)]; exact g1
              · rw [k2 _ (by omega)]; exact g2
              · rw [k2 _ (by omega), g3 _ (by omega) (by omega)]; exact cl' k hk
              · rw [k3, g4, f10]
        · refine ⟨fun z => absurd z (by decide), fun _ => ?_, fun z => absurd z (by decide), fun z => absurd z (by decide), fun _ z => absurd rfl z⟩
          refine M_readScaleName hM R2 e0' h5 N2 (kPost_q (c := 6 * l + 1) (by omega) hM ?_)
          simp only [pBr] at h
          cases hp : pSc (nxT tp sz lm) hd nm (nxT tp sz lm t) with
          | error er => rw [hp] at h; exact fun I' J' a1 a2 a3 => br_t rfl (h I' J' a1 a2 (frK_tr fk a3))
          | ok p =>
            simp only [hp] at h
            intro I4 J4 R4 k1 k2 k3 k4
            refine br_f (by decide) (M_endB (I0 := I) (J0 := J) (b := (1, p.1, 0, 0, 0, 0)) hM R4 ⟨?_, fun _ => k1, fun z => (by rcases z with z | z <;> cases z), fun z => (by cases z), fun z => (by cases z)⟩ (fun k hk => ?_) ?_ (frK_tr fk k4) (lPost_01 h))
            · rw [k2 _ (by omega)]; exact c0
            · rw [k2 _ (by omega)]; exact cl' k hk
            · rw [k3, f10]
        · refine ⟨fun z => absurd z (by decide), fun z => absurd z (by decide), fun _ => ?_, fun z => absurd z (by decide), fun _ _ z => absurd rfl z⟩
          simp only [pBr] at h
          exact M_endB (I0 := I) (J0 := J) (b := (2, 0, 0, 0, 0, 0)) hM R2 ⟨c0, fun z => (by rcases z with z | z | z <;> cases z), fun z => (by rcases z with z | z <;> cases z), fun z => (by cases z), fun z => (by cases z)⟩ cl' f10 fk (lPost_or h)
        · refine ⟨fun z => absurd z (by decide), fun z => absurd z (by decide), fun z => absurd z (by decide), fun _ => ?_, fun _ _ _ z => absurd rfl z⟩
          refine M_readCask (c := 6 * l + 1) (by omega) hM R2 e0' h5 N2 ?_
          simp only [pBr] at h
          cases hp : pCk (nxT tp sz lm) hd nm (nxT tp sz lm t) with
          | error er => rw [hp] at h; exact fun I' J' a1 a2 a3 => br_t rfl (h I' J' a1 a2 (frK_tr fk a3))
          | ok p =>
            simp only [hp] at h
            intro I3 J3 R3 g1 g2 g3 g4 g5
            have fk3 := frK_tr fk g5
            have e03 : I3 93 0 = nI (hd 0) := by rw [g5.1 93 0 (by decide) (by omega)]; exact e0'
            have N3 : rNm J3 hd nm := rNm_of N2 (fun k => g5.2 98 k (by omega))
            refine br_f (by decide) (M_readCask (c := 6 * l + 3) (by omega) hM R3 e03 h5 N3 ?_)
            cases hq : pCk (nxT tp sz lm) hd nm p.2 with
            | error er => simp only [hq] at h; exact fun I' J' a1 a2 a3 => br_t rfl (h I' J' a1 a2 (frK_tr fk3 a3))
            | ok q =>
              simp only [hq] at h
              intro I5 J5 R5 m1 m2 m3 m4 m5
              refine br_f (by decide) (M_readNumQ (a := 1) (b := 400) (by decide) (by decide) hM R5 (kPost_q (c := 6 * l + 5) (by omega) hM ?_))
              have fk5 := frK_tr fk3 m5
              cases hz : rdN (nxT tp sz lm) q.2 1 400 with
              | error er => simp only [hz] at h; exact fun I' J' a1 a2 a3 => br_t rfl (h I' J' a1 a2 (frK_tr fk5 a3))
              | ok z =>
                simp only [hz] at h
                intro I4 J4 R4 k1 k2 k3 k4
                refine br_f (by decide) (M_endB (I0 := I) (J0 := J) (b := (3, p.1.1, p.1.2, q.1.1, q.1.2, z.1)) hM R4 ⟨?_, fun _ => ?_, fun _ => ⟨?_, k1⟩, fun _ => ⟨?_, ?_⟩, fun z => (by cases z)⟩ (fun k hk => ?_) ?_ (frK_tr fk5 k4) (lPost_01 h))
                · rw [k2 _ (by omega), m3 _ (by omega) (by omega), g3 _ (by omega) (by omega)]; exact c0
                · rw [k2 _ (by omega), m3 _ (by omega) (by omega)]; exact g1
                · rw [k2 _ (by omega), m3 _ (by omega) (by omega)]; exact g2
                · rw [k2 _ (by omega)]; exact m1
                · rw [k2 _ (by omega)]; exact m2
                · rw [k2 _ (by omega), m3 _ (by omega) (by omega), g3 _ (by omega) (by omega)]; exact cl' k hk
                · rw [k3, m4, g4, f10]
        · refine ⟨fun z => absurd z (by decide), fun z => absurd z (by decide), fun z => absurd z (by decide), fun z => absurd z (by decide), fun _ _ _ _ => ?_⟩
          refine M_readNumQ (a := 1) (b := 39) (by decide) (by decide) hM R2 (kPost_q (c := 6 * l + 1) (by omega) hM ?_)
          simp only [pBr] at h
          cases hp : rdN (nxT tp sz lm) (nxT tp sz lm t) 1 39 with
          | error er => rw [hp] at h; exact fun I' J' a1 a2 a3 => br_t rfl (h I' J' a1 a2 (frK_tr fk a3))
          | ok z =>
            simp only [hp] at h
            intro I4 J4 R4 k1 k2 k3 k4
            refine br_f (by decide) (M_endB (I0 := I) (J0 := J) (b := (4, 0, 0, 0, 0, z.1)) hM R4 ⟨?_, fun z => (by rcases z with z | z | z <;> cases z), fun z => (by rcases z with z | z <;> cases z), fun z => (by cases z), fun _ => k1⟩ (fun k hk => ?_) ?_ (frK_tr fk k4) (lPost_01 h))
            · rw [k2 _ (by omega)]; exact c0
            · rw [k2 _ (by omega)]; exact cl' k hk
            · rw [k3, f10]
  have key := loopN 4 (fun j => Ok G (d + 5) mX12_readBookLine 17 [some (.ref 91), some (.int (vbW t j)), some (.int (nI j))] [] I J P K n (kI P K n F)) main (fun j hj ih => by
    refine bX12_readBookLine_17 hM _ _ (br_f (nI_nlt (a := 3) (b := j) (by omega) (by decide)) ?_)
    have e : (5 + nI j : Int32) = nI (5 + j) := by show nI 5 + nI _ = _; rw [i_add]
    rw [e, nI_1]
    refine M_isWord (k := 5 + j) (by omega) hM R.2.1 R.2.2 (b01n (fun e1 => ?_) (fun e1 => ?_))
    · have e2 : vbW t (j + 1) = vbW t j := by simp only [vbW]; rw [e1]; rfl
      rw [e2] at ih; exact ih
    · have e2 : vbW t (j + 1) = nI j := by simp only [vbW]; rw [e1]; rfl
      rw [e2] at ih; exact ih) 0 (by decide)
  refine bX12_readBookLine_0 hM (M_isWord (k := 9) (by decide) hM R.2.1 R.2.2 (b01n (fun e1 => ?_) (fun e1 => ?_)))
  · have e2 : vbW t 0 = -1 := by simp only [vbW]; rw [e1]; rfl
    rw [e2] at key; exact key
  · have e2 : vbW t 0 = 4 := by simp only [vbW]; rw [e1]; rfl
    rw [e2] at key; exact key
end ModBook3
