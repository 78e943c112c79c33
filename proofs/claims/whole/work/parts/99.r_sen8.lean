/-! the class: a SENTENCE is read from its start; a cellar is copied -/
section Sen11
variable {G : gG} {d : Nat} {I I0 : sI} {J J0 : sJ} {P : sP} {K : sK} {n : Nat} {F : Int32 → sI → sJ → Prop} {sz lm : Nat} {tp : Nat → Nat} {t : tokT} {hd : Nat → Nat} {nm : Nat → List Nat} {a s l : Nat}
def sQ9 (a s : Nat) (I0 : sI) (J0 : sJ) (F : Int32 → sI → sJ → Prop) (r : pE sgT) : Prop := match r with
  | .error e => ∀ I' J', I' 2 9 = nI e.1 → I' 2 10 = nI e.2 → frS9 a s I0 I' J0 J' → F 0 I' J'
  | .ok p => ∀ I' J', rS9 I' a s p → kp9 a s I0 I' J0 J' → F 1 I' J'
theorem C_readS (hX : shX P K) (hP : P 2 0 = some 1) (hT : shT P K a l s) (hL : shL P K l) (hN : shN P K s) (p : ap9 a s l) (R : rP6 I J sz lm tp t) (Y : lyB P K I J l hd nm) (A : rS9 I a s ([], 0)) (h : sQ9 a s I J F (match pOrW (nxT tp sz lm) (pSd (nxT tp sz lm) hd nm 8) ([], 0) t with | .error e => .error e | .ok p => if p.2.1 = 0 then .ok p.1 else fl p.2 1)) : ckI G (d + 26) mX9_read [.ref a] I J P K n F := by
  refine bX9_read_0 hX _ hT hL hN (C_readCond (D := d + 24) (x := 1) (q := ([], 0)) hX hP hT hL hN p (okSd_d _ _ _ 8) (by omega) (C_one hX hP hT hL hN p 8 (d + 24) 1 rfl (by omega)) R Y A (by decide) (by decide) ?_)
  cases e : pOrW (nxT tp sz lm) (pSd (nxT tp sz lm) hd nm 8) ([], 0) t with
  | error er =>
    rw [e] at h
    exact fun I' J' g1 g2 g3 => br_t rfl (h I' J' g1 g2 g3)
  | ok r =>
    rw [e] at h
    dsimp only at h
    intro I1 J1 A1 R1 kp1
    have e0 : (kd6 r.2 = 0) ↔ (if r.2.1 = 4 then r.2.2.2.2.1 else r.2.1) = 0 := kd6_eq (k := 0) R1.2.2.1 (by decide)
    refine br_f (by decide) ?_
    rw [R1.2.1.2.2.1]
    by_cases c0 : r.2.1 = 0
    · rw [if_pos c0] at h
      exact br_t (e0.mpr (by rw [if_neg (by omega)]; exact c0)) (h I1 J1 A1 kp1)
    · rw [if_neg c0] at h
      refine br_f (fun z => ?_) (C_fail hX R1.2.1 (fun I' g1 g2 g3 => br_t rfl (h I' J1 (by rw [g1]; show _ = nI (fau _ 1); rw [fau_1]; rfl) g2 (kp9_F kp1 g3))))
      have z := e0.mp z
      split at z
      · rename_i q4; have := sgn_ge (R1.2.2.2 q4); omega
      · exact c0 z
end Sen11
