/-! shares by greatest remainders -/
def up (f : Nat → Nat) (k v : Nat) : Nat → Nat := fun i => if i = k then v else f i
theorem up_s (f : Nat → Nat) (k v : Nat) : up f k v k = v := by simp [up]
theorem up_n (f : Nat → Nat) {k i : Nat} (v : Nat) (h : i ≠ k) : up f k v i = f i := by simp [up, h]
def amx (f : Nat → Nat) : Nat → Nat
  | 0 => 0
  | k + 1 => if f (amx f k) < f k then k else amx f k
theorem amx_spec (f : Nat → Nat) : ∀ m, 0 < m → amx f m < m ∧ (∀ i, i < m → f i ≤ f (amx f m)) ∧ (∀ i, i < amx f m → f i < f (amx f m)) := by
  intro m
  induction m with
  | zero => intro h; omega
  | succ m ih =>
    intro _
    rcases Nat.eq_zero_or_pos m with q | q
    · subst q
      have e : amx f 1 = 0 := by simp [amx]
      rw [e]
      exact ⟨by omega, fun i hi => by rw [show i = 0 by omega]; exact Nat.le_refl _, fun i hi => by omega⟩
    · obtain ⟨h1, h2, h3⟩ := ih q
      simp only [amx]
      split
      · rename_i hlt
        exact ⟨by omega, fun i hi => by
          rcases Nat.lt_or_ge i m with r | r
          · exact Nat.le_of_lt (Nat.lt_of_le_of_lt (h2 i r) hlt)
          · rw [show i = m by omega]; exact Nat.le_refl _, fun i hi => Nat.lt_of_le_of_lt (h2 i hi) hlt⟩
      · rename_i hge
        exact ⟨by omega, fun i hi => by
          rcases Nat.lt_or_ge i m with r | r
          · exact h2 i r
          · rw [show i = m by omega]; omega, h3⟩
theorem amx_uniq {f : Nat → Nat} {m b : Nat} (hb : b < m) (h1 : ∀ i, i < m → f i ≤ f b) (h2 : ∀ i, i < b → f i < f b) : amx f m = b := by
  obtain ⟨a1, a2, a3⟩ := amx_spec f m (by omega)
  rcases Nat.lt_trichotomy (amx f m) b with q | q | q
  · have := h2 _ q; have := a2 b hb; omega
  · exact q
  · have := a3 _ q; have := h1 _ a1; omega
def gv (m : Nat) : Nat → (Nat → Nat) → (Nat → Nat) → Nat → Nat
  | 0, _, sh => sh
  | r + 1, c, sh => gv m r (up c (amx c m) 0) (up sh (amx c m) (sh (amx c m) + 1))
/-- how it stands with codes c (0: given already, else what was left off and 1), shares sh, r to give -/
def gvI (m S : Nat) (base rem : Nat → Nat) (r : Nat) (c sh : Nat → Nat) : Prop := (∀ i, i < m → (c i = 0 ∧ 0 < rem i ∧ sh i = base i + 1) ∨ (c i = rem i + 1 ∧ sh i = base i)) ∧ r * S ≤ sm (fun i => c i - 1) m
theorem gvI_pick {m S : Nat} {base rem : Nat → Nat} {r : Nat} {c sh : Nat → Nat} (hS : 0 < S) (h : gvI m S base rem (r + 1) c sh) : amx c m < m ∧ 2 ≤ c (amx c m) ∧ c (amx c m) = rem (amx c m) + 1 ∧ sh (amx c m) = base (amx c m) := by
  have hp : 0 < sm (fun i => c i - 1) m := by
    have h2 := h.2
    rw [Nat.succ_mul] at h2
    omega
  obtain ⟨k, hk, hc⟩ := sm_pos hp
  obtain ⟨a1, a2, a3⟩ := amx_spec c m (by omega)
  have := a2 k hk
  have h2 : 2 ≤ c (amx c m) := by omega
  rcases h.1 _ a1 with ⟨q, -⟩ | ⟨q1, q2⟩
  · omega
  · exact ⟨a1, h2, q1, q2⟩
theorem gvI_step {m S : Nat} {base rem : Nat → Nat} {r : Nat} {c sh : Nat → Nat} (hS : 0 < S) (hr : ∀ i, i < m → rem i < S) (h : gvI m S base rem (r + 1) c sh) : gvI m S base rem r (up c (amx c m) 0) (up sh (amx c m) (sh (amx c m) + 1)) := by
  obtain ⟨a1, a2, a3, a4⟩ := gvI_pick hS h
  refine ⟨fun i hi => ?_, ?_⟩
  · by_cases e : i = amx c m
    · subst e
      left
      rw [up_s, up_s]
      exact ⟨rfl, by omega, by omega⟩
    · rw [up_n _ _ e, up_n _ _ e]
      exact h.1 i hi
  · have e : sm (fun i => up c (amx c m) 0 i - 1) m = sm (fun i => if i = amx c m then 0 else c i - 1) m := sm_congr (fun i _ => by
      by_cases q : i = amx c m <;> simp [up, q])
    have u := sm_upd (f := fun i => c i - 1) (n := m) (k := amx c m) (v := 0) a1
    have h2 := h.2
    have h3 := hr _ a1
    rw [Nat.succ_mul] at h2
    rw [e]
    omega
theorem gv_ok {m S : Nat} {base rem : Nat → Nat} (hS : 0 < S) (hr : ∀ i, i < m → rem i < S) : ∀ (r : Nat) (c sh : Nat → Nat), gvI m S base rem r c sh → (∀ i, i < m → gv m r c sh i = base i ∨ (gv m r c sh i = base i + 1 ∧ 0 < rem i)) ∧ sm (gv m r c sh) m = sm sh m + r := by
  intro r
  induction r with
  | zero =>
    intro c sh h
    refine ⟨fun i hi => ?_, rfl⟩
    rcases h.1 i hi with ⟨-, q1, q2⟩ | ⟨-, q2⟩
    · exact Or.inr ⟨q2, q1⟩
    · exact Or.inl q2
  | succ r ih =>
    intro c sh h
    obtain ⟨i1, i2⟩ := ih _ _ (gvI_step hS hr h)
    have a1 := (gvI_pick hS h).1
    refine ⟨i1, ?_⟩
    show sm (gv m r _ _) m = _
    rw [i2]
    have u := sm_upd (f := sh) (n := m) (k := amx c m) (v := sh (amx c m) + 1) a1
    have e : sm (up sh (amx c m) (sh (amx c m) + 1)) m = sm (fun i => if i = amx c m then sh (amx c m) + 1 else sh i) m := rfl
    omega
def srB (own : Nat → Nat) (m n i : Nat) : Nat := own i * n / sm own m
def srR (own : Nat → Nat) (m n i : Nat) : Nat := own i * n % sm own m
def srL (own : Nat → Nat) (m n : Nat) : Nat := n - sm (srB own m n) m
def shr (own : Nat → Nat) (m n : Nat) : Nat → Nat := if n = 0 then fun _ => 0 else gv m (srL own m n) (fun i => srR own m n i + 1) (srB own m n)
theorem sh_id (own : Nat → Nat) (m n : Nat) : sm own m * sm (srB own m n) m + sm (srR own m n) m = n * sm own m := by
  rw [← sm_mul, ← sm_add, ← sm_mul]
  refine sm_congr (fun i _ => ?_)
  unfold srB srR
  rw [Nat.div_add_mod, Nat.mul_comm]
theorem sh_le {own : Nat → Nat} {m n : Nat} (hS : 0 < sm own m) : sm (srB own m n) m ≤ n := by
  have h := sh_id own m n
  rw [Nat.mul_comm n] at h
  exact Nat.le_of_mul_le_mul_left (show sm own m * sm (srB own m n) m ≤ sm own m * n by omega) hS
theorem sh_init {own : Nat → Nat} {m n : Nat} (hS : 0 < sm own m) : gvI m (sm own m) (srB own m n) (srR own m n) (srL own m n) (fun i => srR own m n i + 1) (srB own m n) := by
  refine ⟨fun i _ => Or.inr ⟨rfl, rfl⟩, ?_⟩
  have h := sh_id own m n
  have h2 := sh_le (n := n) hS
  have e : sm (fun i => srR own m n i + 1 - 1) m = sm (srR own m n) m := sm_congr (fun i _ => by omega)
  rw [e]
  unfold srL
  rw [Nat.sub_mul]
  rw [Nat.mul_comm (sm own m)] at h
  omega
theorem shR_lt {own : Nat → Nat} {m n : Nat} (hS : 0 < sm own m) : ∀ i, i < m → srR own m n i < sm own m := fun i _ => Nat.mod_lt _ hS
theorem shr_ok {own : Nat → Nat} {m n : Nat} (hn : n ≤ sm own m) : (∀ i, i < m → shr own m n i ≤ own i) ∧ sm (shr own m n) m = n := by
  unfold shr
  split
  · rename_i e
    subst e
    exact ⟨fun i _ => Nat.zero_le _, sm_zero m⟩
  · rename_i e
    have hS : 0 < sm own m := by omega
    obtain ⟨h1, h2⟩ := gv_ok hS (shR_lt (n := n) hS) _ _ _ (sh_init (n := n) hS)
    refine ⟨fun i hi => ?_, ?_⟩
    · have hd : sm own m * srB own m n i + srR own m n i = own i * n := Nat.div_add_mod _ _
      have hle : own i * n ≤ own i * sm own m := Nat.mul_le_mul_left _ hn
      rcases h1 i hi with q | ⟨q, q2⟩
      · rw [q]
        refine Nat.le_of_mul_le_mul_left (show sm own m * srB own m n i ≤ sm own m * own i from ?_) hS
        rw [Nat.mul_comm (sm own m) (own i)]
        omega
      · rw [q]
        have : srB own m n i < own i := by
          refine Nat.lt_of_mul_lt_mul_left (a := sm own m) ?_
          rw [Nat.mul_comm (sm own m) (own i)]
          omega
        omega
    · rw [h2]
      have := sh_le (n := n) hS
      unfold srL
      omega
theorem shr_0 {own : Nat → Nat} {m n i : Nat} (hn : n ≤ sm own m) (hi : i < m) (h : own i = 0) : shr own m n i = 0 := by
  have := (shr_ok hn).1 i hi
  omega
theorem gv_congr {m : Nat} : ∀ (r : Nat) (c c' sh sh' : Nat → Nat), (∀ i, i < m → c i = c' i) → (∀ i, i < m → sh i = sh' i) → 0 < m → ∀ i, i < m → gv m r c sh i = gv m r c' sh' i := by
  intro r
  induction r with
  | zero => intro c c' sh sh' _ h2 _ i hi; exact h2 i hi
  | succ r ih =>
    intro c c' sh sh' h1 h2 hm i hi
    have e : amx c m = amx c' m := by
      obtain ⟨a1, a2, a3⟩ := amx_spec c m hm
      refine (amx_uniq a1 (fun j hj => ?_) (fun j hj => ?_)).symm
      · rw [← h1 j hj, ← h1 _ a1]; exact a2 j hj
      · rw [← h1 j (by omega), ← h1 _ a1]; exact a3 j hj
    simp only [gv]
    have hb := (amx_spec c m hm).1
    refine ih _ _ _ _ (fun j hj => ?_) (fun j hj => ?_) hm i hi
    · rw [← e]; by_cases q : j = amx c m <;> simp [up, q, h1 j hj]
    · rw [← e]; by_cases q : j = amx c m
      · simp [up, q, h2 _ hb]
      · simp [up, q, h2 j hj]
theorem shr_congr {own own' : Nat → Nat} {m n : Nat} (h : ∀ i, i < m → own i = own' i) (hm : 0 < m) : ∀ i, i < m → shr own m n i = shr own' m n i := by
  intro i hi
  have e : sm own m = sm own' m := sm_congr h
  have e1 : ∀ j, j < m → srB own m n j = srB own' m n j := fun j hj => by unfold srB; rw [h j hj, e]
  have e2 : ∀ j, j < m → srR own m n j = srR own' m n j := fun j hj => by unfold srR; rw [h j hj, e]
  unfold shr
  split
  · rfl
  · have e3 : srL own m n = srL own' m n := by unfold srL; rw [sm_congr e1]
    rw [e3]
    exact gv_congr _ _ _ _ _ (fun j hj => by rw [e2 j hj]) e1 hm i hi
section ModShr
variable {G : gG} {d : Nat} {I : sI} {J : sJ} {P : sP} {K : sK} {n : Nat} {F : Int32 → sI → sJ → Prop} {FV : sI → sJ → Prop} {hd so : Nat → Nat}
/-- I' is I but at the cells of D -/
def chg (I I' : sI) (D : Nat → Prop) : Prop := ∀ a k, ¬ D a → I' a k = I a k
theorem i_m1 {a b : Nat} (ha : a < 1073741824) (hb : b < 1073741824) : (nI a - 1 ≤ nI b - 1) ↔ a ≤ b := by
  have e : ∀ c : Nat, c < 1073741824 → (nI c - 1 : Int32).toInt = (c : Int) - 1 := fun c hc => by
    have := pk_sub_toInt (a := c) (b := 1) (by omega) (by decide)
    exact this
  rw [Int32.le_iff_toInt_le, e a ha, e b hb]
  omega
theorem M_give {many : Nat} (hM : shM P K) (hm : 0 < many) (hm2 : many ≤ 40) : ∀ (r : Nat) (c sh : Nat → Nat) (I' : sI), r < 1000000 → (∀ i, i < many → c i < 1000000000) → (∀ i, i < many → I' 103 i = nI (sh i) ∧ I' 104 i = nI (c i) - 1) →
    (∀ I2, (∀ i, i < many → I2 103 i = nI (gv many r c sh i)) → chg I' I2 (fun a => a = 103 ∨ a = 104) → FV I2 J) → Ok G d mX12_layShares 109 [some (.ref 91), some (.int (nI many)), none, none, some (.int (nI r)), none, none] [] I' J P K n (kV P K n FV) := by
  intro r
  induction r with
  | zero =>
    intro c sh I' _ _ hI h
    exact bX12_layShares_109 _ _ (br_t (nI_le (Nat.le_refl 0) (by decide)) (h I' (fun i hi => (hI i hi).1) (fun a k _ => rfl)))
  | succ r ih =>
    intro c sh I' hr hc hI h
    refine bX12_layShares_109 _ _ (br_f (nI_ge (a := 0) (by omega) (by omega)) ?_)
    have key := loopN many (fun j => 0 < j → Ok G d mX12_layShares 120 [some (.ref 91), some (.int (nI many)), none, none, some (.int (nI (r + 1))), some (.int (nI (amx c j))), some (.int (nI j))] [] I' J P K n (kV P K n FV)) ?_ ?_ 1 (by omega)
    · have k1 := key (by decide)
      have e : amx c 1 = 0 := by simp [amx]
      rw [e] at k1
      exact k1
    · intro _
      obtain ⟨a1, -, -⟩ := amx_spec c many hm
      have hv : vp_in (nI (amx c many)) 40 := nI_inN (by omega) (by omega)
      refine bX12_layShares_120 hM _ _ _ _ (br_t (nI_le (Nat.le_refl _) (by omega)) ⟨hv, hv, hv, ?_⟩)
      rw [nI_ck (by omega), pk_m1]
      refine ih (up c (amx c many) 0) (up sh (amx c many) (sh (amx c many) + 1)) _ (by omega) (fun i hi => ?_) (fun i hi => ?_) (fun I2 h1 h2 => h I2 h1 (fun a k ha => ?_))
      · by_cases q : i = amx c many
        · rw [q, up_s]; omega
        · rw [up_n _ _ q]; exact hc i hi
      · by_cases q : i = amx c many
        · subst q
          rw [up_s, up_s, u2_s, u2_a _ _ _ _ (by decide), u2_s, (hI _ hi).1, nI_1]
          exact ⟨rfl, by decide⟩
        · rw [up_n _ _ q, up_n _ _ q, u2_a _ _ _ _ (by decide), u2_k _ _ _ _ q, u2_k _ _ _ _ q, u2_a _ _ _ _ (by decide)]
          exact hI i hi
      · rw [h2 a k ha, u2_a _ _ _ _ (fun e => ha (Or.inr e)), u2_a _ _ _ _ (fun e => ha (Or.inl e))]
    · intro j hj ihj hj0
      obtain ⟨a1, -, -⟩ := amx_spec c j hj0
      have hv : vp_in (nI (amx c j)) 40 := nI_inN (by omega) (by omega)
      have hv2 : vp_in (nI j) 40 := nI_inN (by omega) (by omega)
      have ih2 := ihj (by omega)
      refine bX12_layShares_120 hM _ _ _ _ (br_f (nI_ge hj (by omega)) ⟨hv2, hv, ?_⟩)
      rw [nI_ck (by omega), nI_ck (by omega), (hI j hj).2, (hI _ (by omega)).2, nI_1]
      have hcc := hc j hj
      have hcb := hc (amx c j) (by omega)
      simp only [amx] at ih2
      by_cases q : c (amx c j) < c j
      · rw [if_pos q] at ih2
        exact br_f (fun e => absurd ((i_m1 (by omega) (by omega)).mp e) (by omega)) ih2
      · rw [if_neg q] at ih2
        exact br_t ((i_m1 (by omega) (by omega)).mpr (by omega)) ih2
theorem M_layShares {many x : Nat} {own : Nat → Nat} (hM : shM P K) (hm : 0 < many) (hm2 : many ≤ 40) (hO : ∀ k, k < many → I 102 k = nI (own k)) (hx : x ≤ sm own many) (hb : sm own many ≤ 20000)
    (h : ∀ I', (∀ k, k < many → I' 103 k = nI (shr own many x k)) → chg I I' (fun a => a = 103 ∨ a = 104) → FV I' J) : ckV G d mX12_layShares [.ref 91, .int (nI many), .int (nI x)] I J P K n FV := by
  have hown : ∀ k, k < many → own k ≤ 20000 := fun k hk => Nat.le_trans (sm_mem hk) hb
  refine bX12_layShares_0 _ _ (loopN many (fun j => Ok G d mX12_layShares 5 [some (.ref 91), some (.int (nI many)), some (.int (nI x)), some (.int (nI (sm own j))), some (.int (nI j)), none, none] [] I J P K n (kV P K n FV)) ?_ ?_ 0 (by omega))
  · refine bX12_layShares_5 hM _ _ _ _ (br_t (nI_le (Nat.le_refl _) (by omega)) ?_)
    rcases Nat.eq_zero_or_pos x with hx0 | hx0
    · subst hx0
      have key := loopN many (fun j => ∀ I', (∀ k, k < j → I' 103 k = nI 0) → chg I I' (fun a => a = 103 ∨ a = 104) → Ok G d mX12_layShares 33 [some (.ref 91), some (.int (nI many)), some (.int (nI 0)), some (.int (nI (sm own many))), some (.int (nI 0)), some (.int (nI j)), none] [] I' J P K n (kV P K n FV)) ?_ ?_ 0 (by omega)
      · exact key I (fun k hk => by omega) (fun a k _ => rfl)
      · intro I' h1 h2
        refine bX12_layShares_33 hM _ _ _ _ _ (br_t (nI_le (Nat.le_refl _) (by omega)) ?_)
        refine bX12_layShares_109 _ _ (br_t (nI_le (Nat.le_refl 0) (by decide)) (h I' (fun k hk => ?_) h2))
        rw [h1 k hk]
        simp [shr]
      · intro j hj ih I' h1 h2
        have hv : vp_in (nI j) 40 := nI_inN (by omega) (by omega)
        refine bX12_layShares_33 hM _ _ _ _ _ (br_f (nI_ge hj (by omega)) (br_t rfl ⟨hv, br_t rfl ⟨hv, hv, ?_⟩⟩))
        rw [nI_ck (by omega), u2_s, nI_1]
        have e : (nI 0 - 0 : Int32) = nI 0 := by decide
        rw [e]
        refine ih _ (fun k hk => ?_) (fun a k ha => ?_)
        · rw [u2_a _ _ _ _ (by decide)]
          by_cases q : k = j
          · subst q; rw [u2_s]; rfl
          · rw [u2_k _ _ _ _ q]; exact h1 k (by omega)
        · rw [u2_a _ _ _ _ (fun e => ha (Or.inr e)), u2_a _ _ _ _ (fun e => ha (Or.inl e))]
          exact h2 a k ha
    · have hS : 0 < sm own many := by omega
      have hBle : ∀ j, j ≤ many → sm (srB own many x) j ≤ x := fun j hj => Nat.le_trans (sm_mono hj) (sh_le hS)
      have key := loopN many (fun j => ∀ I', (∀ k, k < j → I' 103 k = nI (srB own many x k) ∧ I' 104 k = nI (srR own many x k)) → chg I I' (fun a => a = 103 ∨ a = 104) → Ok G d mX12_layShares 33 [some (.ref 91), some (.int (nI many)), some (.int (nI x)), some (.int (nI (sm own many))), some (.int (nI (x - sm (srB own many x) j))), some (.int (nI j)), none] [] I' J P K n (kV P K n FV)) ?_ ?_ 0 (by omega)
      · exact key I (fun k hk => by omega) (fun a k _ => rfl)
      · intro I' h1 h2
        refine bX12_layShares_33 hM _ _ _ _ _ (br_t (nI_le (Nat.le_refl _) (by omega)) ?_)
        refine M_give hM hm hm2 (srL own many x) (fun i => srR own many x i + 1) (srB own many x) I' (by unfold srL; omega) (fun i hi => by have := shR_lt (n := x) hS i hi; omega) (fun i hi => ⟨(h1 i hi).1, ?_⟩) (fun I2 g1 g2 => h I2 (fun k hk => ?_) (fun a k ha => (g2 a k ha).trans (h2 a k ha)))
        · rw [(h1 i hi).2, nI_pred]
        · rw [g1 k hk]
          unfold shr
          rw [if_neg (by omega)]
      · intro j hj ih I' h1 h2
        have hv : vp_in (nI j) 40 := nI_inN (by omega) (by omega)
        have hj1 := hBle (j + 1) hj
        simp only [sm] at hj1
        have hoj := hown j hj
        have hprod : own j * x ≤ 20000 * 20000 := Nat.mul_le_mul hoj (by omega)
        have hx0' : ¬ nI x = 0 := nI_ne0 hx0 (by omega)
        have hS' : ¬ nI (sm own many) = 0 := nI_ne0 hS (by omega)
        refine bX12_layShares_33 hM _ _ _ _ _ (br_f (nI_ge hj (by omega)) (br_f hx0' ⟨hv, hS', hv, br_f hx0' ⟨hv, hS', hv, hv, ?_⟩⟩))
        rw [nI_ck (by omega), u2_s, nI_1, h2 102 j (by decide), hO j hj, i_mul, i_rem (a := own j * x) (by omega) hS (by omega), i_div (by omega) hS (by omega)]
        have e : nI (x - sm (srB own many x) j) - nI (own j * x / sm own many) = nI (x - sm (srB own many x) (j + 1)) := by
          show _ - nI (srB own many x j) = _
          rw [i_sub (by omega)]
          simp only [sm]
          congr 1
          omega
        rw [e]
        refine ih _ (fun k hk => ?_) (fun a k ha => ?_)
        · by_cases q : k = j
          · subst q; rw [u2_s, u2_a _ _ _ _ (by decide), u2_s]; exact ⟨rfl, rfl⟩
          · rw [u2_a _ _ _ _ (by decide), u2_k _ _ _ _ q, u2_k _ _ _ _ q, u2_a _ _ _ _ (by decide)]
            exact h1 k (by omega)
        · rw [u2_a _ _ _ _ (fun e => ha (Or.inr e)), u2_a _ _ _ _ (fun e => ha (Or.inl e))]
          exact h2 a k ha
  · intro j hj ih
    refine bX12_layShares_5 hM _ _ _ _ (br_f (nI_ge hj (by omega)) ⟨nI_inN (by omega) (by omega), ?_⟩)
    rw [nI_ck (by omega), hO j hj, i_add, nI_1]
    exact ih
end ModShr
