section OkNew
variable {G : gG} {d : Nat} {M : gM} {pc : Nat} {L : List (Option Value)} {st : List Value} {I I' : sI} {J J' : sJ} {P P' : sP} {K : sK} {n : Nat} {Q : gQ}
theorem z2_s {α : Type} (f : Nat → Nat → α) (a k : Nat) (v : α) : z2 f a v a k = v := by simp [z2]
theorem z2_a {α : Type} (f : Nat → Nat → α) {a a' : Nat} (k : Nat) (v : α) (h : a' ≠ a) : z2 f a v a' k = f a' k := by simp [z2, h]
theorem u1_s {α : Type} (f : Nat → α) (a : Nat) (v : α) : u1 f a v a = v := by simp [u1]
theorem u1_a {α : Type} (f : Nat → α) {a a' : Nat} (v : α) (h : a' ≠ a) : u1 f a v a' = f a' := by simp [u1, h]
theorem gS_new (K : sK) (n : Nat) (v : Nat × Nat) : gS (u1 K n v) (n + 1) = gS K n + v.2 := by
  simp only [gS, u1_s]
  rw [gS_congr (K' := K) (fun a ha => u1_a K v (by omega))]
theorem gS_u1 (K : sK) {m n : Nat} (v : Nat × Nat) (h : m ≤ n) : gS (u1 K n v) m = gS K m := gS_congr (fun a ha => u1_a K v (by omega))
theorem rep_new {H H' : Heap} {kd z : Nat} (R : Rep G I J P K n H) (e2 : H'.size = H.size + 1) (e3 : ∀ q : Nat, q < H.size → H'[q]? = H[q]?) (hs : ∃ cell : Cell, H'[gB G + n]? = some cell ∧ cell.slots.size = z) (hC : gC G (z2 I n 0) (z2 J n 0) (z2 P n none) n (kd, z) H')
    (c1 : n + 1 ≤ 601024) (c2 : gS K n + z ≤ 7293034) : Rep G (z2 I n 0) (z2 J n 0) (z2 P n none) (u1 K n (kd, z)) (n + 1) H' := by
  have hz := R.1
  refine ⟨by omega, fun q hq => (e3 q (by omega)).trans (R.2.1 q hq), fun b hb => ?_, fun b hb => ?_, fun a ha => ?_, c1, by rw [gS_new]; exact c2⟩
  · by_cases e : b = n
    · subst e; rw [u1_s]; exact hs
    · rw [u1_a _ _ e]
      obtain ⟨cell, h1, h2⟩ := R.2.2.1 b (by omega)
      exact ⟨cell, (e3 _ (by omega)).trans h1, h2⟩
  · by_cases e : b = n
    · subst e; rw [u1_s]; exact hC
    · rw [u1_a _ _ e]
      have h := R.2.2.2.1 b (by omega)
      have hh : H'[gB G + b]? = H[gB G + b]? := e3 _ (by omega)
      have hI : ∀ k, z2 I n 0 b k = I b k := fun k => z2_a I k 0 e
      have hJ : ∀ k, z2 J n 0 b k = J b k := fun k => z2_a J k 0 e
      have hP : ∀ k, z2 P n none b k = P b k := fun k => z2_a P k none e
      unfold gC at h ⊢
      split
      · rename_i q
        rw [if_pos q] at h
        obtain ⟨r, h1, h2, h3⟩ := h
        refine ⟨r, h1, h2, (h3.kept hh).to (fun k _ => ?_)⟩
        unfold gF
        split <;> simp [hI, hJ, hP]
      · rename_i q
        rw [if_neg q] at h
        split
        · rename_i q2
          rw [if_pos q2] at h
          rw [hh, h]
          refine congrArg some (congrArg (arrV _ _) (funext fun j => ?_))
          unfold gE
          simp [hI, hJ, hP]
        · trivial
  · rw [u1_a _ _ (by omega)]
    exact R.2.2.2.2.1 a (by omega)
theorem grow1 {n0 : Nat} {K0 : sK} (v : Nat × Nat) (hg : n0 ≤ n ∧ ∀ a, a < n0 → K a = K0 a) : n0 ≤ n + 1 ∧ ∀ a, a < n0 → u1 K n v a = K0 a := ⟨by omega, fun a ha => by rw [u1_a _ _ (by omega)]; exact hg.2 a ha⟩
def tyOkB (t : FieldType) : Bool := match t with
  | .int => true
  | .boolean => true
  | .long => true
  | .object _ => true
  | .array _ => true
  | _ => false
theorem gTy_ok (ci k : Nat) : tyOkB (gTy ci k) = true := by
  unfold gTy
  split
  · unfold tyX0; split <;> rfl
  · unfold tyX1; split <;> rfl
  · unfold tyX2; split <;> rfl
  · unfold tyX3; split <;> rfl
  · unfold tyX4; split <;> rfl
  · unfold tyX5; split <;> rfl
  · unfold tyX6; split <;> rfl
  · unfold tyX7; split <;> rfl
  · unfold tyX8; split <;> rfl
  · unfold tyX9; split <;> rfl
  · unfold tyX10; split <;> rfl
  · unfold tyX11; split <;> rfl
  · unfold tyX12; split <;> rfl
theorem gF_dflt {ci k : Nat} (a : Nat) : defaultValue (gTy ci k) = gF G (z2 I a 0) (z2 J a 0) (z2 P a none) a k (gTy ci k) := by
  have h := gTy_ok ci k
  generalize gTy ci k = t at h ⊢
  cases t <;> first | (simp [tyOkB] at h; done) | (simp [gF, z2_s, defaultValue, gR]; done) | rfl
theorem ok_new {ci idx : Nat} {q : vw_C} (hd : decode M.2.1 pc = .ok (.new idx, 3)) (hc : vwCl[ci]? = some q) (hc13 : ci < 13) (w1 : Cond.classLink M.1.cls idx q.1 ∈ tbG) (w2 : Cond.instantiable q.1 q.2.2 ∈ tbG) (w3 : Cond.initialized q.1 ∈ tbG)
    (h : n + 1 ≤ 601024 ∧ gS K n + q.2.2 ≤ 7293034 ∧ Ok G d M (pc + 3) L (.ref n :: st) (z2 I n 0) (z2 J n 0) (z2 P n none) (u1 K n (ci, q.2.2)) (n + 1) Q) : Ok G d M pc L st I J P K n Q := by
  intro p e s m args below meth c ls H locs n0 K0 C R hl hg hq
  obtain ⟨c1, c2, h3⟩ := h
  obtain ⟨hx, hb, hml, hret, hown, hts, hlk, hnm, hK, hsz, hxt⟩ := id C
  have hKn := hK.1 ci _ hc
  have hS0 : gS K n0 = gS K0 n0 := gS_congr hg.2
  have hmo : gS K n0 ≤ gS K n := gS_mono hg.1
  have had : gAd G n = H.size := by rw [R.1]; unfold gAd; rw [if_pos (by omega)]
  refine W.newcK hx hb hown (hts _ w1) (hts _ w2) (hts _ w3) rfl hd (by show n - n0 + 1 ≤ 601024 - n0; omega) (by show gS K n - gS K n0 + q.2.2 ≤ 7293034 - gS K0 n0; omega) hKn.2.1 rfl fun H1 kC hkC e1 z1 o1 => ?_
  have R1 := R.1
  have hob := u_born (gTy ci) hts (clIn hc) hKn hkC e1 (clTy ci _ hc)
  have hsz2 : kC.instanceTypes.size = q.2.2 := by
    obtain ⟨cC, kC', hfc, hk, hkind, hz⟩ := Cond.instantiable_spec (hts _ w2)
    cases hKn.2.1.symm.trans hfc
    cases hkC.symm.trans hk
    exact hz.2.2
  have key := h3 p e s m args below meth c ls H1 locs n0 K0 C (rep_new R z1 o1 ⟨_, by rw [← R1]; exact e1, by simp [blank, hsz2]⟩ (by
    unfold gC
    rw [if_pos hc13]
    refine ⟨q, hc, rfl, ?_⟩
    rw [← R1]
    exact hob.to (fun k _ => gF_dflt n)) c1 c2) hl (grow1 _ hg) hq
  rw [gS_new, gS_u1 _ _ hg.1, show n + 1 - n0 = n - n0 + 1 by omega, show gS K n + q.2.2 - gS K n0 = gS K n - gS K n0 + q.2.2 by omega] at key
  rw [← had]
  exact key
theorem ok_newa {t : Nat} {x : Int32} {atype : ArrayType} {ty : FieldType} (hty : newarray.typeOf atype = ty) (ht : (gTys G)[t]? = some (G.2.2.2.1 t, ty)) (ht3 : t < 3) (hRA : ∀ U : State, ∀ cA : ClassId, va_RA U cA ty → U.vm.findClass ("[" ++ ty.toString) = some cA) (hdv : ∀ a j, defaultValue ty = gE G (z2 I a 0) (z2 J a 0) (z2 P a none) a j t) (hd : decode M.2.1 pc = .ok (.newarray atype, 2)) (w1 : Cond.arrayClass ty ∈ tbG)
    (h : ¬ x < 0 ∧ x.toNatClampNeg * componentBytes ty ≤ 536870912 ∧ n + 1 ≤ 601024 ∧ gS K n + x.toNatClampNeg ≤ 7293034 ∧ Ok G d M (pc + 2) L (.ref n :: st) (z2 I n 0) (z2 J n 0) (z2 P n none) (u1 K n (13 + t, x.toNatClampNeg)) (n + 1) Q) : Ok G d M pc L (.int x :: st) I J P K n Q := by
  intro p e s m args below meth c ls H locs n0 K0 C R hl hg hq
  obtain ⟨b1, b2, c1, c2, h3⟩ := h
  obtain ⟨hx, hb, hml, hret, hown, hts, hlk, hnm, hK, hsz, hxt⟩ := id C
  have hS0 : gS K n0 = gS K0 n0 := gS_congr hg.2
  have hmo : gS K n0 ≤ gS K n := gS_mono hg.1
  have had : gAd G n = H.size := by rw [R.1]; unfold gAd; rw [if_pos (by omega)]
  subst hty
  refine W.newa (atype := atype) hx hb (hts _ w1) rfl hd rfl b1 b2 (by show n - n0 + 1 ≤ 601024 - n0; omega) (by show gS K n - gS K n0 + x.toNatClampNeg ≤ 7293034 - gS K0 n0; omega) fun cA kA comp f1 f2 f3 => ?_
  have hcA : cA = G.2.2.2.1 t := Option.some.inj (f1.symm.trans (hRA s _ (hK.2 t _ ht).2))
  subst hcA
  have R1 := R.1
  have key := h3 p e s m args below meth c ls _ locs n0 K0 C (rep_new (H' := H.push { cls := G.2.2.2.1 t, slots := Array.replicate x.toNatClampNeg (defaultValue (newarray.typeOf atype)), vm := .none }) (kd := 13 + t) R (Array.size_push _) (fun q hq => Array.getElem?_push_lt hq ▸ (by simp [hq])) ⟨{ cls := G.2.2.2.1 t, slots := Array.replicate x.toNatClampNeg (defaultValue (newarray.typeOf atype)), vm := .none }, by rw [← R1]; simp, by simp⟩ (by
    unfold gC
    rw [if_neg (by show ¬ 13 + t < 13; omega), if_pos (by show 13 + t < 19; omega), ← R1]
    rw [Array.getElem?_push_size, arrV_new]
    show _ = some (arrV (G.2.2.2.1 (13 + t - 13)) x.toNatClampNeg (fun j => gE G (z2 I n 0) (z2 J n 0) (z2 P n none) n j (13 + t - 13)))
    rw [show 13 + t - 13 = t by omega]
    exact congrArg some (congrArg (arrV _ _) (funext fun j => hdv n j))) c1 c2) hl (grow1 _ hg) hq
  rw [gS_new, gS_u1 _ _ hg.1, show n + 1 - n0 = n - n0 + 1 by omega, show gS K n + x.toNatClampNeg - gS K n0 = gS K n - gS K n0 + x.toNatClampNeg by omega] at key
  rw [← had]
  exact key
end OkNew
