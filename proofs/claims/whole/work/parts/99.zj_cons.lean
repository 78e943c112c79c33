/-! constructors: what is made, cell by cell -/
def SI (b : Nat) (I0 : sI) (J0 : sJ) (P0 : sP) (K0 : sK) (E : Nat → Nat → Prop) (lk lp : List (Nat × Nat × Nat)) (n S : Nat) (I : sI) (J : sJ) (P : sP) (K : sK) : Prop :=
  (∀ q, q ∈ lk → q.1 < n ∧ K q.1 = q.2) ∧ (∀ q, q ∈ lp → q.1 < n ∧ P q.1 q.2.1 = some q.2.2) ∧ (∀ x k, b ≤ x → x < n → ¬ E x k → I x k = 0) ∧ (∀ x k, b ≤ x → x < n → (∀ v, (x, k, v) ∉ lp) → P x k = none) ∧ gS K n = S ∧ b ≤ n ∧ (∀ x k, x < b → I x k = I0 x k ∧ J x k = J0 x k ∧ P x k = P0 x k) ∧ ∀ x, x < b → K x = K0 x
section Cons
variable {G : gG} {d : Nat} {b : Nat} {I0 : sI} {J0 : sJ} {P0 : sP} {K0 : sK} {E : Nat → Nat → Prop} {lk lp : List (Nat × Nat × Nat)} {n S : Nat} {I : sI} {J : sJ} {P : sP} {K : sK}
theorem u2_n {α : Type} (f : Nat → Nat → α) {a a' k k' : Nat} (v : α) (h : ¬ (a' = a ∧ k' = k)) : u2 f a k v a' k' = f a' k' := by simp only [u2]; rw [if_neg h]
theorem SI_obj (kd sz : Nat) (h : SI b I0 J0 P0 K0 E lk lp n S I J P K) : SI b I0 J0 P0 K0 E ((n, kd, sz) :: lk) lp (n + 1) (S + sz) (z2 I n 0) (z2 J n 0) (z2 P n none) (u1 K n (kd, sz)) := by
  obtain ⟨h1, h2, h3, h4, h5, h6, h7, h8⟩ := h
  refine ⟨fun q hq => ?_, fun q hq => ?_, fun x k g1 g2 g3 => ?_, fun x k g1 g2 g3 => ?_, ?_, by omega, fun x k hx => ⟨?_, ?_, ?_⟩, fun x hx => ?_⟩
  · rcases List.mem_cons.mp hq with e | e
    · subst e; exact ⟨Nat.lt_succ_self _, u1_s _ _ _⟩
    · have := h1 q e
      exact ⟨by omega, (u1_a _ _ (by omega)).trans this.2⟩
  · have := h2 q hq
    exact ⟨by omega, (z2_a _ _ _ (by omega)).trans this.2⟩
  · by_cases e : x = n
    · subst e; exact z2_s _ _ _ _
    · rw [z2_a _ _ _ e]; exact h3 x k g1 (by omega) g3
  · by_cases e : x = n
    · subst e; exact z2_s _ _ _ _
    · rw [z2_a _ _ _ e]; exact h4 x k g1 (by omega) g3
  · rw [gS_new, h5]
  · rw [z2_a _ _ _ (by omega)]; exact (h7 x k hx).1
  · rw [z2_a _ _ _ (by omega)]; exact (h7 x k hx).2.1
  · rw [z2_a _ _ _ (by omega)]; exact (h7 x k hx).2.2
  · rw [u1_a _ _ (by omega)]; exact h8 x hx
theorem SI_put (obj fld v : Nat) (ho : b ≤ obj) (hn : obj < n) (hf : ∀ q, q ∈ lp → ¬ (q.1 = obj ∧ q.2.1 = fld)) (h : SI b I0 J0 P0 K0 E lk lp n S I J P K) : SI b I0 J0 P0 K0 E lk ((obj, fld, v) :: lp) n S I J (u2 P obj fld (some v)) K := by
  obtain ⟨h1, h2, h3, h4, h5, h6, h7, h8⟩ := h
  refine ⟨h1, fun q hq => ?_, h3, fun x k g1 g2 g3 => ?_, h5, h6, fun x k hx => ⟨(h7 x k hx).1, (h7 x k hx).2.1, ?_⟩, h8⟩
  · rcases List.mem_cons.mp hq with e | e
    · subst e; exact ⟨hn, u2_s _ _ _ _⟩
    · have := h2 q e
      exact ⟨this.1, (u2_n _ _ (hf q e)).trans this.2⟩
  · rw [u2_n _ _ (fun e => by obtain ⟨e1, e2⟩ := e; subst e1; subst e2; exact g3 v List.mem_cons_self)]
    exact h4 x k g1 g2 (fun w hw => g3 w (List.mem_cons_of_mem _ hw))
  · rw [u2_a _ _ _ _ (by omega)]; exact (h7 x k hx).2.2
theorem SI_arr (kd sz obj fld : Nat) (ho : b ≤ obj) (hn : obj < n) (hf : ∀ q, q ∈ lp → ¬ (q.1 = obj ∧ q.2.1 = fld)) (h : SI b I0 J0 P0 K0 E lk lp n S I J P K) : SI b I0 J0 P0 K0 E ((n, kd, sz) :: lk) ((obj, fld, n) :: lp) (n + 1) (S + sz) (z2 I n 0) (z2 J n 0) (u2 (z2 P n none) obj fld (some n)) (u1 K n (kd, sz)) := SI_put obj fld n ho (by omega) hf (SI_obj kd sz h)
theorem SI_wr (obj fld : Nat) (v : Int32) (ho : b ≤ obj) (he : E obj fld) (h : SI b I0 J0 P0 K0 E lk lp n S I J P K) : SI b I0 J0 P0 K0 E lk lp n S (u2 I obj fld v) J P K := by
  obtain ⟨h1, h2, h3, h4, h5, h6, h7, h8⟩ := h
  refine ⟨h1, h2, fun x k g1 g2 g3 => ?_, h4, h5, h6, fun x k hx => ⟨?_, (h7 x k hx).2⟩, h8⟩
  · rw [u2_n _ _ (fun e => by obtain ⟨e1, e2⟩ := e; subst e1; subst e2; exact g3 he)]
    exact h3 x k g1 g2 g3
  · rw [u2_a _ _ _ _ (by omega)]; exact (h7 x k hx).1
theorem SI_mna (obj fld : Nat) (ho : b ≤ obj) (hn : obj < n) (hf : ∀ q, q ∈ lp → ¬ (q.1 = obj ∧ q.2.1 = fld)) (h : SI b I0 J0 P0 K0 E lk lp n S I J P K) : SI b I0 J0 P0 K0 E ((n, 18, 4) :: (n + 1, 13, 21) :: (n + 2, 13, 21) :: (n + 3, 13, 21) :: (n + 4, 13, 21) :: lk) ((obj, fld, n) :: (n, 0, n + 1) :: (n, 1, n + 2) :: (n, 2, n + 3) :: (n, 3, n + 4) :: lp) (n + (4 + 1)) (S + (4 + 4 * 21)) (zr I n 4 0) (zr J n 4 0) (u2 (mnP P n 4) obj fld (some n)) (mnK K n 4 21) := by
  have h' : SI b I0 J0 P0 K0 E ((n, 18, 4) :: (n + 1, 13, 21) :: (n + 2, 13, 21) :: (n + 3, 13, 21) :: (n + 4, 13, 21) :: lk) ((n, 0, n + 1) :: (n, 1, n + 2) :: (n, 2, n + 3) :: (n, 3, n + 4) :: lp) (n + (4 + 1)) (S + (4 + 4 * 21)) (zr I n 4 0) (zr J n 4 0) (mnP P n 4) (mnK K n 4 21) := by
    obtain ⟨h1, h2, h3, h4, h5, h6, h7, h8⟩ := h
    refine ⟨fun q hq => ?_, fun q hq => ?_, fun x k g1 g2 g3 => ?_, fun x k g1 g2 g3 => ?_, ?_, by omega, fun x k hx => ⟨?_, ?_, ?_⟩, fun x hx => ?_⟩
    · unfold mnK
      rcases List.mem_cons.mp hq with e | hq
      · subst e; exact ⟨by show n < _; omega, if_pos rfl⟩
      rcases List.mem_cons.mp hq with e | hq
      · subst e; exact ⟨by show n + 1 < _; omega, by rw [if_neg (by show ¬ n + 1 = n; omega), if_pos (by show n < n + 1 ∧ n + 1 < _; omega)]⟩
      rcases List.mem_cons.mp hq with e | hq
      · subst e; exact ⟨by show n + 2 < _; omega, by rw [if_neg (by show ¬ n + 2 = n; omega), if_pos (by show n < n + 2 ∧ n + 2 < _; omega)]⟩
      rcases List.mem_cons.mp hq with e | hq
      · subst e; exact ⟨by show n + 3 < _; omega, by rw [if_neg (by show ¬ n + 3 = n; omega), if_pos (by show n < n + 3 ∧ n + 3 < _; omega)]⟩
      rcases List.mem_cons.mp hq with e | hq
      · subst e; exact ⟨by show n + 4 < _; omega, by rw [if_neg (by show ¬ n + 4 = n; omega), if_pos (by show n < n + 4 ∧ n + 4 < _; omega)]⟩
      have := h1 q hq
      exact ⟨by omega, by rw [if_neg (by omega), if_neg (by omega)]; exact this.2⟩
    · unfold mnP
      rcases List.mem_cons.mp hq with e | hq
      · subst e; exact ⟨by show n < _; omega, by rw [if_pos rfl]; rfl⟩
      rcases List.mem_cons.mp hq with e | hq
      · subst e; exact ⟨by show n < _; omega, by rw [if_pos rfl]; rfl⟩
      rcases List.mem_cons.mp hq with e | hq
      · subst e; exact ⟨by show n < _; omega, by rw [if_pos rfl]; rfl⟩
      rcases List.mem_cons.mp hq with e | hq
      · subst e; exact ⟨by show n < _; omega, by rw [if_pos rfl]; rfl⟩
      have := h2 q hq
      exact ⟨by omega, by rw [if_neg (by omega), if_neg (by omega)]; exact this.2⟩
    · unfold zr
      by_cases e : n ≤ x ∧ x < n + (4 + 1)
      · rw [if_pos e]
      · rw [if_neg e]; exact h3 x k g1 (by omega) g3
    · unfold mnP
      by_cases e : x = n
      · subst e
        rw [if_pos rfl]
        by_cases e2 : k < 4
        · exfalso
          rcases (show k = 0 ∨ k = 1 ∨ k = 2 ∨ k = 3 by omega) with q | q | q | q
          · subst q; exact g3 _ List.mem_cons_self
          · subst q; exact g3 _ (List.mem_cons_of_mem _ List.mem_cons_self)
          · subst q; exact g3 _ (List.mem_cons_of_mem _ (List.mem_cons_of_mem _ List.mem_cons_self))
          · subst q; exact g3 _ (List.mem_cons_of_mem _ (List.mem_cons_of_mem _ (List.mem_cons_of_mem _ List.mem_cons_self)))
        · rw [if_neg e2]
      · rw [if_neg e]
        by_cases e2 : n < x ∧ x < n + (4 + 1)
        · rw [if_pos e2]
        · rw [if_neg e2]
          exact h4 x k g1 (by omega) (fun w hw => g3 w (List.mem_cons_of_mem _ (List.mem_cons_of_mem _ (List.mem_cons_of_mem _ (List.mem_cons_of_mem _ hw)))))
    · have := gS_mn K n 4 21 4 (Nat.le_refl _)
      rw [show n + 1 + 4 = n + (4 + 1) by omega] at this
      rw [this, h5]
    · unfold zr; rw [if_neg (by omega)]; exact (h7 x k hx).1
    · unfold zr; rw [if_neg (by omega)]; exact (h7 x k hx).2.1
    · unfold mnP; rw [if_neg (by omega), if_neg (by omega)]; exact (h7 x k hx).2.2
    · unfold mnK; rw [if_neg (by omega), if_neg (by omega)]; exact h8 x hx
  refine SI_put obj fld n ho (by omega) (fun q hq => ?_) h'
  rcases List.mem_cons.mp hq with e | hq
  · subst e; show ¬ (n = obj ∧ _); omega
  rcases List.mem_cons.mp hq with e | hq
  · subst e; show ¬ (n = obj ∧ _); omega
  rcases List.mem_cons.mp hq with e | hq
  · subst e; show ¬ (n = obj ∧ _); omega
  rcases List.mem_cons.mp hq with e | hq
  · subst e; show ¬ (n = obj ∧ _); omega
  exact hf q hq
theorem SI_k {o c z : Nat} (h : SI b I0 J0 P0 K0 E lk lp n S I J P K) (m : (o, c, z) ∈ lk) : (K o).1 = c := by rw [(h.1 _ m).2]
theorem SI_b {z : Nat} (h : SI b I0 J0 P0 K0 E lk lp n S I J P K) (hz : S + z ≤ 7293034) : gS K n + z ≤ 7293034 := by rw [h.2.2.2.2.1]; exact hz
theorem SI_K {o c z : Nat} (h : SI b I0 J0 P0 K0 E lk lp n S I J P K) (m : (o, c, z) ∈ lk) : K o = (c, z) := (h.1 _ m).2
theorem SI_P {o c z : Nat} (h : SI b I0 J0 P0 K0 E lk lp n S I J P K) (m : (o, c, z) ∈ lp) : P o c = some z := (h.2.1 _ m).2
theorem N3 {F : sI → sJ → sP → sK → Nat → Prop} (h : F I J P K n) : cqV G (d + 1) mX3_init [.ref 21] I J P K n F := ok_mono (fun _ _ _ _ _ _ ⟨⟨e1, e2, e3⟩, e4, q⟩ => by subst e1; subst e2; subst e3; exact ⟨e4, q⟩) (bX3_init_0 (F := fun I' J' => F I' J' P K n) h)
theorem X_new2 {F : sI → sJ → sP → sK → Nat → Prop} {tp row : Nat → Nat} {nm : Nat → List Nat} {us : Nat → Nat → Nat} (hX : shX P K) (Z : ∀ x k, x < 35 → ¬ (x = 10 ∧ (k = 2 ∨ k = 3)) → I x k = 0) (m2 : I 10 2 = -1) (m3 : I 10 3 = -1) (N : ∀ x k, (x = 29 ∨ x = 30 ∨ x = 31 ∨ (x = 0 ∧ 8 ≤ k ∧ k ≤ 10)) → P x k = none) (hS : gS K 35 ≤ 5000) (hF : ∀ I' J' P' K', shX P' K' → XL I' 0 tp 0 0 row (-1) (-1) none [] → XHc (fun i => if i = 0 then some 41 else if i = 1 then some 66 else none) 0 I' J' P' K' 91 h0 nm (stS h0) 0 us none (fun _ => none) → gS K' 91 ≤ 10000 → F I' J' P' K' 91) : cqV G (d + 2) mX5_init [.ref 35] (z2 I 35 0) (z2 J 35 0) (z2 P 35 none) (u1 K 35 (5, 10)) 36 (fun I37 J38 P40 K41 n42 => n42 + 1 ≤ 601024 ∧ gS K41 n42 + 8 ≤ 7293034 ∧ cqV G (d + 2) mX1_init [.ref n42, .ref 35] (z2 I37 n42 0) (z2 J38 n42 0) (z2 P40 n42 none) (u1 K41 n42 (1, 8)) (n42 + 1) (fun I43 J44 P46 K47 n48 => (K47 0).1 = 11 ∧ n48 + 1 ≤ 601024 ∧ gS K47 n48 + 8 ≤ 7293034 ∧ cqV G (d + 2) mX1_init [.ref n48, .ref 35] (z2 I43 n48 0) (z2 J44 n48 0) (z2 (u2 P46 0 8 (some n42)) n48 none) (u1 K47 n48 (1, 8)) (n48 + 1) (fun I49 J50 P52 K53 n54 => (K53 0).1 = 11 ∧ F I49 J50 (u2 P52 0 9 (some n48)) K53 n54))) := by
  have k0 : (K 0).1 = 11 := by rw [shX_K0 hX]
  have s36 : gS (u1 K 35 (5, 10)) 36 = gS K 35 + 10 := gS_new K 35 (5, 10)
  refine C_newL (l := 35) rfl (u1_s _ _ _) ⟨z2_s _ _ _ _, z2_s _ _ _ _⟩ (by decide) (by omega) (fun I2 J2 P2 K2 sL nw fr frK frS => ?_)
  have frS : gS K2 41 = gS (u1 K 35 (5, 10)) 36 + 40 := frS
  have s42 : gS (u1 K2 41 (1, 8)) 42 = gS K2 41 + 8 := gS_new K2 41 (1, 8)
  refine ⟨by decide, by show gS K2 41 + 8 ≤ 7293034; omega, ?_⟩
  refine C_newC (c := 41) (l := 35) rfl (by decide) (u1_s _ _ _) (by rw [u1_a _ _ (by decide), shL_K sL]) (by decide) (by show gS (u1 K2 41 (1, 8)) 42 + 900 ≤ 7293034; omega) (fun I3 J3 P3 K3 sC3 p3 i1 i2 i3 zz3 fr3 frK3 frS3 => ?_)
  have frS3 : gS K3 66 = gS (u1 K2 41 (1, 8)) 42 + 900 := frS3
  have s67 : gS (u1 K3 66 (1, 8)) 67 = gS K3 66 + 8 := gS_new K3 66 (1, 8)
  have kx2 : ∀ x, x < 35 → K2 x = K x := fun x hx => (frK x (by omega)).trans (u1_a _ _ (by omega))
  have kx3 : ∀ x, x < 41 → K3 x = K2 x := fun x hx => (frK3 x (by omega)).trans (u1_a _ _ (by omega))
  refine ⟨by rw [kx3 0 (by omega), kx2 0 (by omega)]; exact k0, by decide, by show gS K3 66 + 8 ≤ 7293034; omega, ?_⟩
  refine C_newC (c := 66) (l := 35) rfl (by decide) (u1_s _ _ _) (by rw [u1_a _ _ (by decide), kx3 35 (by omega), shL_K sL]) (by decide) (by show gS (u1 K3 66 (1, 8)) 67 + 900 ≤ 7293034; omega) (fun I4 J4 P4 K4 sC4 p4 j1 j2 j3 zz4 fr4 frK4 frS4 => ?_)
  have frS4 : gS K4 91 = gS (u1 K3 66 (1, 8)) 67 + 900 := frS4
  have kx4 : ∀ x, x < 66 → K4 x = K3 x := fun x hx => (frK4 x (by omega)).trans (u1_a _ _ (by omega))
  have ix2 : ∀ x k, x < 35 → I2 x k = I x k := fun x k hx => (fr x k hx).1.trans (z2_a _ _ _ (by omega))
  have ix3 : ∀ x k, x < 41 → I3 x k = I2 x k := fun x k hx => (fr3 x k hx).1.trans (z2_a _ _ _ (by omega))
  have ix4 : ∀ x k, x < 66 → I4 x k = I3 x k := fun x k hx => (fr4 x k hx).1.trans (z2_a _ _ _ (by omega))
  have px2 : ∀ x k, x < 35 → P2 x k = P x k := fun x k hx => (fr x k hx).2.2.trans (z2_a _ _ _ (by omega))
  have px3 : ∀ x k, x < 41 → P3 x k = P2 x k := fun x k hx => (fr3 x k hx).2.2.trans (z2_a _ _ _ (by omega))
  have px4 : ∀ x k, x < 66 → ¬ (x = 0 ∧ k = 8) → P4 x k = P3 x k := fun x k hx q => (fr4 x k hx).2.2.trans ((z2_a _ _ _ (by omega)).trans (u2_n _ _ q))
  have p48 : P4 0 8 = some 41 := (fr4 0 8 (by decide)).2.2.trans ((z2_a _ _ _ (by decide)).trans (u2_s _ _ _ _))
  have gI : ∀ x k, x < 35 → I4 x k = I x k := fun x k hx => (ix4 x k (by omega)).trans ((ix3 x k (by omega)).trans (ix2 x k hx))
  have gK : ∀ x, x < 35 → K4 x = K x := fun x hx => (kx4 x (by omega)).trans ((kx3 x (by omega)).trans (kx2 x hx))
  have gP : ∀ x k, x < 35 → ¬ (x = 0 ∧ (k = 8 ∨ k = 9)) → u2 P4 0 9 (some 66) x k = P x k := fun x k hx q => (u2_n _ _ (by omega)).trans ((px4 x k (by omega) (by omega)).trans ((px3 x k (by omega)).trans (px2 x k hx)))
  have gZ : ∀ x k, x < 35 → ¬ (x = 10 ∧ (k = 2 ∨ k = 3)) → I4 x k = 0 := fun x k hx q => (gI x k hx).trans (Z x k hx q)
  refine ⟨by rw [gK 0 (by omega)]; exact k0, hF _ _ _ _ (shX_of hX (fun x k hx _ _ _ _ q => gP x k (by omega) (by omega)) (fun x hx => gK x (by omega))) ?_ ?_ (by omega)⟩
  · exact ⟨⟨gZ 0 1 (by decide) (by decide), by decide, fun j hj => (by omega)⟩, gZ 0 3 (by decide) (by decide), ⟨gZ 10 1 (by decide) (by decide), by decide, fun k hk => (by omega)⟩, ⟨(gI 10 2 (by decide)).trans m2, (gI 10 3 (by decide)).trans m3⟩, gZ 0 17 (by decide) (by decide), ⟨⟨gZ 33 1 (by decide) (by decide), fun k hk => (by cases hk)⟩, by decide⟩, fun j hj => ⟨⟨0, by decide, gZ 24 j (by decide) (by omega)⟩, 0, by decide, gZ 25 j (by decide) (by omega)⟩⟩
  · have c0 : ∀ i, i ≠ 0 → i ≠ 1 → (fun i => if i = 0 then some 41 else if i = 1 then some 66 else none : Nat → Option Nat) i = none := fun i h1 h2 => by simp only [h1, h2, if_false]
    have cc : ∀ i a, (fun i => if i = 0 then some 41 else if i = 1 then some 66 else none : Nat → Option Nat) i = some a → (i = 0 ∧ a = 41) ∨ (i = 1 ∧ a = 66) := fun i a e => by
      by_cases h1 : i = 0
      · subst h1; cases e; exact Or.inl ⟨rfl, rfl⟩
      · by_cases h2 : i = 1
        · subst h2; cases e; exact Or.inr ⟨rfl, rfl⟩
        · rw [c0 i h1 h2] at e; cases e
    have sC41 : shC (u2 P4 0 9 (some 66)) K4 41 := shC_of sC3 (fun x k h1 h2 h3 => (u2_a _ _ _ _ (by omega)).trans (px4 x k (by omega) (by omega))) (fun x h1 h2 => kx4 x (by omega))
    have sC66 : shC (u2 P4 0 9 (some 66)) K4 66 := shC_of sC4 (fun x k h1 h2 h3 => u2_a _ _ _ _ (by omega)) (fun _ _ _ => rfl)
    have sL35 : shL (u2 P4 0 9 (some 66)) K4 35 := shL_of sL (fun x k h1 h2 => (u2_a _ _ _ _ (by omega)).trans ((px4 x k (by omega) (by omega)).trans (px3 x k (by omega)))) (fun x h1 h2 => (kx4 x (by omega)).trans (kx3 x (by omega)))
    have n35 : ∀ k, I4 35 k = I2 35 k := fun k => (ix4 35 k (by decide)).trans (ix3 35 k (by decide))
    refine ⟨⟨?_, u2_s _ _ _ _, fun i hi => ?_, fun i hi => ?_⟩, fun i a hi e => ?_, ⟨gZ 0 12 (by decide) (by decide), by decide, gZ 0 13 (by decide) (by decide), by decide⟩, ⟨66, rfl⟩, ⟨41, 35, rfl, ?_, sL35, ⟨by decide, by decide, by decide, fun i b hi e => ?_⟩, ⟨fun k hk => ?_, fun s hs => (by cases hs), fun k hk => (by cases hk)⟩, fun s hs => (by cases hs), ⟨?_, ?_, ?_, fun k v hk _ => (by cases hk), fun k hk => (by cases hk), fun v hv => ?_⟩, wf_h0⟩, fun i hi => (by omega), ?_, fun k hk => c0 (10 + k) (by omega) (by omega)⟩
    · exact (u2_n _ _ (by decide)).trans p48
    · rw [gP 29 i (by decide) (by omega), N 29 i (Or.inl rfl)]; exact (c0 (2 + i) (by omega) (by omega)).symm
    · rw [gP 30 i (by decide) (by omega), N 30 i (Or.inr (Or.inl rfl))]; exact (c0 (10 + i) (by omega) (by omega)).symm
    · rcases cc i a e with ⟨e1, e2⟩ | ⟨e1, e2⟩
      · subst e1; subst e2
        refine ⟨sC41, ⟨by decide, by decide, by decide⟩, fun j b hj q ej => ?_⟩
        rcases cc j b ej with ⟨f1, f2⟩ | ⟨f1, f2⟩
        · exact absurd f1 q
        · subst f2; left; decide
      · subst e1; subst e2
        refine ⟨sC66, ⟨by decide, by decide, by decide⟩, fun j b hj q ej => ?_⟩
        rcases cc j b ej with ⟨f1, f2⟩ | ⟨f1, f2⟩
        · subst f2; right; decide
        · exact absurd f1 q
    · exact (u2_a _ _ _ _ (by decide)).trans ((px4 41 0 (by decide) (by decide)).trans p3)
    · rcases cc i b e with ⟨-, e2⟩ | ⟨-, e2⟩
      · subst e2; left; decide
      · subst e2; left; decide
    · rw [n35 k]
      rcases (show k = 0 ∨ k = 1 ∨ k = 2 ∨ k = 3 ∨ k = 4 by omega) with q | q | q | q | q
      · subst q; exact nw.1
      · subst q; exact nw.2.1
      · subst q; exact nw.2.2.1
      · subst q; exact nw.2.2.2.1
      · subst q; exact nw.2.2.2.2
    · rw [ix4 41 1 (by decide), i1, z2_a _ _ _ (by decide)]; exact nw.2.2.2.2
    · rw [ix4 41 2 (by decide), i2]; exact z2_s _ _ _ _
    · rw [ix4 41 3 (by decide), i3]; exact z2_s _ _ _ _
    · rw [ix4 65 v (by decide), zz3 65 v (by decide) (by decide)]
      unfold btl stS
      rw [if_neg (by omega), if_pos (by omega)]
      rfl
    · show u2 P4 0 9 (some 66) 0 10 = none
      rw [gP 0 10 (by decide) (by decide)]
      exact N 0 10 (Or.inr (Or.inr (Or.inr ⟨rfl, by decide, by decide⟩)))
theorem X_new {F : sI → sJ → sP → sK → Nat → Prop} {tp row : Nat → Nat} {nm : Nat → List Nat} {us : Nat → Nat → Nat} (hI : ∀ k, I 0 k = 0) (hP : ∀ k, P 0 k = none) (hK : K 0 = (11, 19)) (hF : ∀ I' J' P' K', shX P' K' → XL I' 0 tp 0 0 row (-1) (-1) none [] → XHc (fun i => if i = 0 then some 41 else if i = 1 then some 66 else none) 0 I' J' P' K' 91 h0 nm (stS h0) 0 us none (fun _ => none) → gS K' 91 ≤ 10000 → F I' J' P' K' 91) : cqV G (d + 3) mX11_init [.ref 0] I J P K 1 F := by
  have h0' : SI 0 I J P K (fun x k => (x = 10 ∧ (k = 2 ∨ k = 3))) [(0, 11, 19)] [] 1 19 I J P K := by
    refine ⟨fun q hq => ?_, fun q hq => (by cases hq), fun x k _ h1 _ => ?_, fun x k _ h1 _ => ?_, ?_, by decide, fun x k hx => (by omega), fun x hx => (by omega)⟩
    · have : q = (0, 11, 19) := by simpa using hq
      subst this
      exact ⟨by decide, hK⟩
    · have : x = 0 := by omega
      subst this; exact hI k
    · have : x = 0 := by omega
      subst this; exact hP k
    · show gS K 0 + (K 0).2 = 19
      rw [hK]
      rfl
  have h1 := SI_arr 13 940 0 0 (by decide) (by decide) (by decide) h0'
  have h2 := SI_obj 6 12 h1
  refine bX11_init_0 ⟨by decide, SI_b h0' (by decide), SI_k (z := 19) h1 (by decide), by decide, SI_b h1 (by decide), ?_⟩
  have h3 := SI_arr 13 0 2 0 (by decide) (by decide) (by decide) h2
  refine bX6_init_0 ⟨by decide, SI_b h2 (by decide), SI_k (z := 12) h3 (by decide), ?_⟩
  have h4 := SI_put 0 2 2 (by decide) (by decide) (by decide) h3
  have h5 := SI_obj 2 5 h4
  refine ⟨SI_k (z := 19) h3 (by decide), by decide, SI_b h4 (by decide), ?_⟩
  have h6 := SI_arr 13 40 4 0 (by decide) (by decide) (by decide) h5
  have h7 := SI_arr 13 40 4 1 (by decide) (by decide) (by decide) h6
  have h8 := SI_arr 13 40 4 2 (by decide) (by decide) (by decide) h7
  have h9 := SI_arr 13 4 4 3 (by decide) (by decide) (by decide) h8
  have h10 := SI_arr 13 4 4 4 (by decide) (by decide) (by decide) h9
  refine bX2_init_0 ⟨by decide, SI_b h5 (by decide), SI_k (z := 5) h6 (by decide), by decide, SI_b h6 (by decide), SI_k (z := 5) h7 (by decide), by decide, SI_b h7 (by decide), SI_k (z := 5) h8 (by decide), by decide, SI_b h8 (by decide), SI_k (z := 5) h9 (by decide), by decide, SI_b h9 (by decide), SI_k (z := 5) h10 (by decide), ?_⟩
  have h11 := SI_put 0 4 4 (by decide) (by decide) (by decide) h10
  have h12 := SI_obj 7 10 h11
  refine ⟨SI_k (z := 19) h10 (by decide), by decide, SI_b h11 (by decide), ?_⟩
  have h13 := SI_arr 13 4 10 0 (by decide) (by decide) (by decide) h12
  have h14 := SI_wr 10 2 (-1) (by decide) (by decide) h13
  have h15 := SI_wr 10 3 (-1) (by decide) (by decide) h14
  have h16 := SI_mna 10 4 (by decide) (by decide) (by decide) h15
  have h17 := SI_arr 13 4 10 5 (by decide) (by decide) (by decide) h16
  have h18 := SI_arr 13 40 10 6 (by decide) (by decide) (by decide) h17
  have h19 := SI_arr 13 20 10 8 (by decide) (by decide) (by decide) h18
  have h20 := SI_arr 13 20 10 9 (by decide) (by decide) (by decide) h19
  refine bX7_init_0 ⟨by decide, SI_b h12 (by decide), SI_k (z := 10) h13 (by decide), SI_k (z := 10) h13 (by decide), SI_k (z := 10) h13 (by decide), by decide, SI_b h15 (by decide), SI_k (z := 10) h16 (by decide), by decide, SI_b h16 (by decide), SI_k (z := 10) h17 (by decide), by decide, SI_b h17 (by decide), SI_k (z := 10) h18 (by decide), by decide, SI_b h18 (by decide), SI_k (z := 10) h19 (by decide), by decide, SI_b h19 (by decide), SI_k (z := 10) h20 (by decide), ?_⟩
  have h21 := SI_put 0 5 10 (by decide) (by decide) (by decide) h20
  have h22 := SI_obj 3 1 h21
  refine ⟨SI_k (z := 19) h20 (by decide), by decide, SI_b h21 (by decide), ?_⟩
  refine N3 ?_
  have h23 := SI_put 0 6 21 (by decide) (by decide) (by decide) h22
  have h24 := SI_obj 0 8 h23
  refine ⟨SI_k (z := 19) h22 (by decide), by decide, SI_b h23 (by decide), ?_⟩
  have h25 := SI_arr 13 40 22 0 (by decide) (by decide) (by decide) h24
  have h26 := SI_arr 13 40 22 1 (by decide) (by decide) (by decide) h25
  have h27 := SI_arr 13 40 22 2 (by decide) (by decide) (by decide) h26
  have h28 := SI_arr 13 40 22 3 (by decide) (by decide) (by decide) h27
  have h29 := SI_arr 13 40 22 4 (by decide) (by decide) (by decide) h28
  have h30 := SI_arr 13 40 22 5 (by decide) (by decide) (by decide) h29
  refine bX0_init_0 ⟨by decide, SI_b h24 (by decide), SI_k (z := 8) h25 (by decide), by decide, SI_b h25 (by decide), SI_k (z := 8) h26 (by decide), by decide, SI_b h26 (by decide), SI_k (z := 8) h27 (by decide), by decide, SI_b h27 (by decide), SI_k (z := 8) h28 (by decide), by decide, SI_b h28 (by decide), SI_k (z := 8) h29 (by decide), by decide, SI_b h29 (by decide), SI_k (z := 8) h30 (by decide), ?_⟩
  have h31 := SI_put 0 7 22 (by decide) (by decide) (by decide) h30
  have h32 := SI_arr 16 8 0 11 (by decide) (by decide) (by decide) h31
  have h33 := SI_arr 16 2 0 14 (by decide) (by decide) (by decide) h32
  have h34 := SI_arr 17 2 0 15 (by decide) (by decide) (by decide) h33
  have h35 := SI_arr 13 4 0 16 (by decide) (by decide) (by decide) h34
  have h36 := SI_obj 10 2 h35
  refine ⟨SI_k (z := 19) h30 (by decide), by decide, SI_b h31 (by decide), SI_k (z := 19) h32 (by decide), by decide, SI_b h32 (by decide), SI_k (z := 19) h33 (by decide), by decide, SI_b h33 (by decide), SI_k (z := 19) h34 (by decide), by decide, SI_b h34 (by decide), SI_k (z := 19) h35 (by decide), by decide, SI_b h35 (by decide), ?_⟩
  have h37 := SI_arr 13 40 33 0 (by decide) (by decide) (by decide) h36
  refine bX10_init_0 ⟨by decide, SI_b h36 (by decide), SI_k (z := 2) h37 (by decide), ?_⟩
  have h38 := SI_put 0 18 33 (by decide) (by decide) (by decide) h37
  refine ⟨SI_k (z := 19) h37 (by decide), by decide, SI_b h38 (by decide), ?_⟩
  refine X_new2 ⟨SI_K h38 (by decide), SI_K h38 (by decide), SI_K h38 (by decide), SI_K h38 (by decide), SI_K h38 (by decide), SI_K h38 (by decide), SI_K h38 (by decide), SI_K h38 (by decide), SI_K h38 (by decide), SI_K h38 (by decide), SI_K h38 (by decide), SI_K h38 (by decide), SI_K h38 (by decide), SI_K h38 (by decide), SI_K h38 (by decide), SI_K h38 (by decide), SI_K h38 (by decide), SI_K h38 (by decide), SI_K h38 (by decide), SI_K h38 (by decide), SI_K h38 (by decide), SI_K h38 (by decide), SI_K h38 (by decide), SI_K h38 (by decide), SI_K h38 (by decide), SI_K h38 (by decide), SI_K h38 (by decide), SI_K h38 (by decide), SI_K h38 (by decide), SI_K h38 (by decide), SI_K h38 (by decide), SI_K h38 (by decide), SI_K h38 (by decide), SI_K h38 (by decide), SI_P h38 (by decide), SI_P h38 (by decide), SI_P h38 (by decide), SI_P h38 (by decide), SI_P h38 (by decide), SI_P h38 (by decide), SI_P h38 (by decide), SI_P h38 (by decide), SI_P h38 (by decide), SI_P h38 (by decide), SI_P h38 (by decide), SI_P h38 (by decide), SI_P h38 (by decide), SI_P h38 (by decide), SI_P h38 (by decide), SI_P h38 (by decide), SI_P h38 (by decide), SI_P h38 (by decide), SI_P h38 (by decide), SI_P h38 (by decide), SI_P h38 (by decide), SI_P h38 (by decide), SI_P h38 (by decide), SI_P h38 (by decide), SI_P h38 (by decide), SI_P h38 (by decide), SI_P h38 (by decide), SI_P h38 (by decide), SI_P h38 (by decide), SI_P h38 (by decide), SI_P h38 (by decide), SI_P h38 (by decide), SI_P h38 (by decide)⟩ (fun x k h1 h2 => h38.2.2.1 x k (Nat.zero_le _) h1 h2) rfl rfl (fun x k hx => h38.2.2.2.1 x k (Nat.zero_le _) (by show x < 35; omega) (fun v hv => ?_)) (by rw [h38.2.2.2.2.1]; decide) hF
  have q1 := (show ∀ q, q ∈ _ → q.1 ≠ 29 ∧ q.1 ≠ 30 ∧ q.1 ≠ 31 ∧ ¬ (q.1 = 0 ∧ 8 ≤ q.2.1 ∧ q.2.1 ≤ 10) by decide) (x, k, v) hv
  simp only at q1
  omega
end Cons
