/-! REFERENCES COMPARED -/
section ACMP
variable {p : Program} {l : Launch} {e : Env} {R : Room} {s : State} {m : MethodId} {args : Array Value} {below : List Frame} {meth : Method} {c : Code} {Q : State → Prop} {G : xG} {E : List (Nat × Nat × Nat)} {D : xD} {S : xS} {V : State} {nL n0 z0 : Nat} {cc : ByteArray} {own : String} {Ts : List Jvm.Cond} {pc : Nat} {w : List Nat} {st ls r : List xV} {h : xH} {off : Int} {tgt : Nat} {bb : Bool}
def xor_ (b : Nat) (oa : Nat → Nat) (n : Nat) : Option Nat := if n = 0 then none else if n % 2 = 1 then some (b + n / 2) else some (oa (n / 2 - 1))
theorem xref_or (b : Nat) (oa : Nat → Nat) (n : Nat) : xref b oa n = va_rf (xor_ b oa n) := by
  unfold xref xor_
  by_cases h0 : n = 0
  · rw [if_pos h0, if_pos h0]; rfl
  · rw [if_neg h0, if_neg h0]
    by_cases h1 : n % 2 = 1
    · rw [if_pos h1, if_pos h1]; rfl
    · rw [if_neg h1, if_neg h1]; rfl
theorem xor_ne {b : Nat} {oa : Nat → Nat} {n k : Nat} (hne : ¬ n = k) (h : n = 0 ∨ k = 0 ∨ (n % 2 = 1 ∧ k % 2 = 1)) : ¬ xor_ b oa n = xor_ b oa k := by
  unfold xor_
  rcases h with h | h | ⟨h1, h2⟩
  · subst h
    rw [if_pos rfl, if_neg (fun q => hne q.symm)]
    split <;> (intro q; cases q)
  · subst h
    rw [if_neg hne, if_pos rfl]
    split <;> (intro q; cases q)
  · rw [if_neg (by omega), if_pos h1, if_neg (by omega), if_pos h2]
    intro q
    have := Option.some.inj q
    omega
theorem so_acmp_eq (C : CX p s m args c cc own nL Ts V) (F : FK G E D S V Ts) (hdg : decode cc pc = .ok (.if_acmp .eq off, 3)) (ht : (pc : Int) + off = (tgt : Int)) (hs : xbr E (.if_acmp .eq off) st = some (bb, r)) (kt : bb = true → XW p l e R s m args below meth c Q G D S V nL n0 z0 tgt r ls h) (kf : bb = false → XW p l e R s m args below meth c Q G D S V nL n0 z0 (pc + 3) r ls h) : XW p l e R s m args below meth c Q G D S V nL n0 z0 pc st ls h := by
  replace hs : (match (generalizing := false) st with
    | y :: x :: r => (match x.1, y.1 with
      | 1, 1 => if Nat.beq x.2 y.2 then some (true, r)
        else if Nat.beq x.2 0 || Nat.beq y.2 0 || (Nat.beq (x.2 % 2) 1 && Nat.beq (y.2 % 2) 1) then some (false, r) else none
      | _, _ => none)
    | _ => none) = some (bb, r) := hs
  split at hs
  · next y x r' =>
    obtain ⟨ty, ny⟩ := y
    obtain ⟨tx, nx⟩ := x
    try dsimp only at hs
    split at hs
    · intro hn hz lsC stC H locs hL hS hX hl
      obtain ⟨vb, q, rfl, hvb, hS1⟩ := hS.cons
      obtain ⟨va, q, rfl, hva, hS2⟩ := hS1.cons
      have hva : va = xref S.2.1 S.2.2 nx := hva
      have hvb : vb = xref S.2.1 S.2.2 ny := hvb
      rw [hva, hvb, xref_or, xref_or]
      by_cases he : Nat.beq nx ny = true
      · rw [if_pos he] at hs
        cases hs
        have e := beq_iff.mp he
        exact lv_acmp_eq C.1 C.2.1 hdg ht (fun _ => kt rfl hn hz _ _ _ _ hL hS2 hX hl) (fun q => absurd (by rw [e]) q)
      · rw [if_neg he] at hs
        split at hs
        · next hc =>
          cases hs
          have hne : ¬ nx = ny := fun q => he (beq_iff.mpr q)
          have hq : nx = 0 ∨ ny = 0 ∨ (nx % 2 = 1 ∧ ny % 2 = 1) := by
            rw [Bool.or_eq_true, Bool.or_eq_true, Bool.and_eq_true, beq_iff, beq_iff, beq_iff, beq_iff, or_assoc] at hc
            exact hc
          exact lv_acmp_eq C.1 C.2.1 hdg ht (fun q => absurd q (xor_ne hne hq)) (fun _ => kf rfl hn hz _ _ _ _ hL hS2 hX hl)
        · cases hs
    · cases hs
  · cases hs
theorem so_acmp_ne (C : CX p s m args c cc own nL Ts V) (F : FK G E D S V Ts) (hdg : decode cc pc = .ok (.if_acmp .ne off, 3)) (ht : (pc : Int) + off = (tgt : Int)) (hs : xbr E (.if_acmp .ne off) st = some (bb, r)) (kt : bb = true → XW p l e R s m args below meth c Q G D S V nL n0 z0 tgt r ls h) (kf : bb = false → XW p l e R s m args below meth c Q G D S V nL n0 z0 (pc + 3) r ls h) : XW p l e R s m args below meth c Q G D S V nL n0 z0 pc st ls h := by
  replace hs : (match (generalizing := false) st with
    | y :: x :: r => (match x.1, y.1 with
      | 1, 1 => if Nat.beq x.2 y.2 then some (false, r)
        else if Nat.beq x.2 0 || Nat.beq y.2 0 || (Nat.beq (x.2 % 2) 1 && Nat.beq (y.2 % 2) 1) then some (true, r) else none
      | _, _ => none)
    | _ => none) = some (bb, r) := hs
  split at hs
  · next y x r' =>
    obtain ⟨ty, ny⟩ := y
    obtain ⟨tx, nx⟩ := x
    try dsimp only at hs
    split at hs
    · intro hn hz lsC stC H locs hL hS hX hl
      obtain ⟨vb, q, rfl, hvb, hS1⟩ := hS.cons
      obtain ⟨va, q, rfl, hva, hS2⟩ := hS1.cons
      have hva : va = xref S.2.1 S.2.2 nx := hva
      have hvb : vb = xref S.2.1 S.2.2 ny := hvb
      rw [hva, hvb, xref_or, xref_or]
      by_cases he : Nat.beq nx ny = true
      · rw [if_pos he] at hs
        cases hs
        have e := beq_iff.mp he
        exact lv_acmp_ne C.1 C.2.1 hdg ht (fun q => absurd (by rw [e]) q) (fun _ => kf rfl hn hz _ _ _ _ hL hS2 hX hl)
      · rw [if_neg he] at hs
        split at hs
        · next hc =>
          cases hs
          have hne : ¬ nx = ny := fun q => he (beq_iff.mpr q)
          have hq : nx = 0 ∨ ny = 0 ∨ (nx % 2 = 1 ∧ ny % 2 = 1) := by
            rw [Bool.or_eq_true, Bool.or_eq_true, Bool.and_eq_true, beq_iff, beq_iff, beq_iff, beq_iff, or_assoc] at hc
            exact hc
          exact lv_acmp_ne C.1 C.2.1 hdg ht (fun _ => kt rfl hn hz _ _ _ _ hL hS2 hX hl) (fun q => absurd q (xor_ne hne hq))
        · cases hs
    · cases hs
  · cases hs
end ACMP
