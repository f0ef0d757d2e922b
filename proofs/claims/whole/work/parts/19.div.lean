/-! DIVIDED -/
section DIV
variable {p : Program} {l : Launch} {e : Env} {R : Room} {s : State} {m : MethodId} {args : Array Value} {below : List Frame} {meth : Method} {c : Code} {Q : State → Prop} {G : xG} {E : List (Nat × Nat × Nat)} {D : xD} {S : xS} {V : State} {nL n0 z0 : Nat} {cc : ByteArray} {own : String} {Ts : List Jvm.Cond} {pc : Nat} {w : List Nat} {st ls st' ls' : List xV} {h h' : xH}
theorem q32_ofInt (n : Nat) : q32 n = Int32.ofInt ((n : Int) - 2147483648) := by
  apply Int32.toInt_inj.mp
  unfold q32
  rw [Int32.toInt_ofNat', Int32.toInt_ofInt, show Int32.size = 4294967296 from rfl, bm32, bm32]
  split <;> split <;> omega
theorem iabs_cases (a : Nat) : (2147483648 ≤ a ∧ Nat.blt a 2147483648 = false ∧ (a : Int) - 2147483648 = (iabs a : Int)) ∨ (a < 2147483648 ∧ Nat.blt a 2147483648 = true ∧ (a : Int) - 2147483648 = -(iabs a : Int)) := by
  unfold iabs
  by_cases h : 2147483648 ≤ a
  · rw [if_pos (ble_iff.mpr h)]
    exact Or.inl ⟨h, bool_not fun q => by have := blt_iff.mp q; omega, by omega⟩
  · rw [if_neg fun q => h (ble_iff.mp q)]
    exact Or.inr ⟨by omega, blt_iff.mpr (by omega), by omega⟩
theorem isgn_toInt {neg : Bool} {q : Nat} (hq : q ≤ 2147483648) : q32 (isgn neg q) = Int32.ofInt (if neg then -(q : Int) else q) := by
  rw [q32_ofInt]
  apply Int32.toInt_inj.mp
  rw [Int32.toInt_ofInt, Int32.toInt_ofInt, show Int32.size = 4294967296 from rfl, bm32, bm32]
  cases neg
  · have e1 : isgn false q = (q + 2147483648) % 4294967296 := by unfold isgn; exact if_neg Bool.false_ne_true
    have e2 : (if (false : Bool) = true then -(q : Int) else (q : Int)) = q := if_neg Bool.false_ne_true
    rw [e1, e2]
    split <;> split <;> omega
  · have e1 : isgn true q = (6442450944 - q) % 4294967296 := by unfold isgn; exact if_pos rfl
    have e2 : (if (true : Bool) = true then -(q : Int) else (q : Int)) = -(q : Int) := if_pos rfl
    rw [e1, e2]
    split <;> split <;> omega
theorem tdiv_isgn (a b : Nat) : ((a : Int) - 2147483648).tdiv ((b : Int) - 2147483648) = if (Nat.blt a 2147483648 != Nat.blt b 2147483648) then -((iabs a / iabs b : Nat) : Int) else ((iabs a / iabs b : Nat) : Int) := by
  rcases iabs_cases a with ⟨-, h1, h2⟩ | ⟨-, h1, h2⟩ <;> rcases iabs_cases b with ⟨-, k1, k2⟩ | ⟨-, k1, k2⟩ <;> rw [h1, h2, k1, k2]
  · rw [if_neg (by decide), Int.ofNat_tdiv]
  · rw [if_pos (by decide), Int.tdiv_neg, Int.ofNat_tdiv]
  · rw [if_pos (by decide), Int.neg_tdiv, Int.ofNat_tdiv]
  · rw [if_neg (by decide), Int.neg_tdiv, Int.tdiv_neg, Int.neg_neg, Int.ofNat_tdiv]
theorem iabs_le {a : Nat} (h : a < 4294967296) : iabs a ≤ 2147483648 := by
  rcases iabs_cases a with ⟨_, _, _⟩ | ⟨_, _, _⟩ <;> omega
theorem idiv_ofInt {a b : Nat} (ha : a < 4294967296) : q32 (idiv a b) = Int32.ofInt (((a : Int) - 2147483648).tdiv ((b : Int) - 2147483648)) := by
  unfold idiv
  rw [isgn_toInt (Nat.le_trans (Nat.div_le_self _ _) (iabs_le ha)), tdiv_isgn]
theorem idiv_ok {a b : Nat} (ha : a < 4294967296) (hb : b < 4294967296) : q32 a / q32 b = q32 (idiv a b) := by
  rw [idiv_ofInt ha]
  apply Int32.toInt_inj.mp
  rw [Int32.toInt_div, q32_toInt ha, q32_toInt hb, Int32.toInt_ofInt]
theorem irem_ofInt {a b : Nat} (ha : a < 4294967296) : q32 (irem a b) = Int32.ofInt (((a : Int) - 2147483648).tmod ((b : Int) - 2147483648)) := by
  unfold irem
  rw [isgn_toInt (Nat.le_trans (Nat.mod_le _ _) (iabs_le ha))]
  congr 1
  rcases iabs_cases a with ⟨-, h1, h2⟩ | ⟨-, h1, h2⟩ <;> rcases iabs_cases b with ⟨-, k1, k2⟩ | ⟨-, k1, k2⟩ <;> rw [h1, h2, k2]
  · rw [if_neg (by decide), Int.ofNat_tmod]
  · rw [if_neg (by decide), Int.tmod_neg, Int.ofNat_tmod]
  · rw [if_pos rfl, Int.neg_tmod, Int.ofNat_tmod]
  · rw [if_pos rfl, Int.neg_tmod, Int.tmod_neg, Int.ofNat_tmod]
theorem irem_ok {a b : Nat} (ha : a < 4294967296) (hb : b < 4294967296) : q32 a - q32 a / q32 b * q32 b = q32 (irem a b) := by
  rw [idiv_ok ha hb, idiv_ofInt ha, irem_ofInt ha, Int.tmod_def, q32_ofInt a, q32_ofInt b, ← Int32.ofInt_mul, ← Int32.ofInt_sub, Int.mul_comm]
theorem lt_isgn {n : Bool} {q : Nat} : isgn n q < 4294967296 := by
  unfold isgn
  split <;> exact Nat.mod_lt _ (by decide)
theorem q32_ne0 {b : Nat} (hb : b < 4294967296) (h : ¬ b = 2147483648) : ¬ q32 b = 0 := by
  rw [← q32_zero, q32_eq hb (by decide)]; exact h
theorem so_idiv (C : CX p s m args c cc own nL Ts V) (F : FK G E D S V Ts) (hdg : decode cc pc = .ok (.idiv, 1)) (hs : xstep G E .idiv w st ls h = some (st', ls', h')) (kk : XW p l e R s m args below meth c Q G D S V nL n0 z0 (pc + 1) st' ls' h') : XW p l e R s m args below meth c Q G D S V nL n0 z0 pc st ls h := by
  obtain ⟨b, a, r, z, rfl, hb, rfl, rfl, rfl⟩ := bin_inv (i := .idiv) hs
  replace hb : (if Nat.beq b.2 2147483648 then none else xint idiv a b) = some z := hb
  split at hb
  · cases hb
  · next h0 =>
    obtain ⟨x, y, rfl, rfl, rfl⟩ := xint_inv hb
    intro hn hz lsC stC H locs hL hS hX hl
    obtain ⟨vb, q, rfl, hvb, hS1⟩ := hS.cons
    obtain ⟨va, q, rfl, hva, hS2⟩ := hS1.cons
    have hvb := hvb.i0
    have hva := hva.i0
    rw [hvb.2, hva.2]
    refine lv_idiv C.1 C.2.1 hdg (q32_ne0 hvb.1 fun q => h0 (beq_iff.mpr q)) (kk hn hz _ _ _ _ hL ⟨⟨lt_isgn, ?_⟩, hS2⟩ hX hl)
    rw [idiv_ok hva.1 hvb.1]
end DIV
