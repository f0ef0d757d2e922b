/-! BITS MOVED -/
section BITS
variable {p : Program} {l : Launch} {e : Env} {R : Room} {s : State} {m : MethodId} {args : Array Value} {below : List Frame} {meth : Method} {c : Code} {Q : State → Prop} {G : xG} {E : List (Nat × Nat × Nat)} {D : xD} {S : xS} {V : State} {nL n0 z0 : Nat} {cc : ByteArray} {own : String} {Ts : List Jvm.Cond} {pc : Nat} {w : List Nat} {st ls st' ls' : List xV} {h h' : xH}
theorem q32_bits (n : Nat) : (q32 n).toBitVec = BitVec.ofNat 32 (u32 n) := by
  unfold q32 u32
  show BitVec.ofNat 32 _ = _
  apply BitVec.eq_of_toNat_eq
  rw [BitVec.toNat_ofNat, BitVec.toNat_ofNat, show (2 ^ 32 : Nat) = 4294967296 from rfl, Nat.mod_mod]
theorem q32_of_bits {x : Int32} {n : Nat} (h : x.toBitVec.toNat = n) : x = q32 (u32 n) := by
  apply Int32.toBitVec_inj.mp
  apply BitVec.eq_of_toNat_eq
  rw [q32_bits, BitVec.toNat_ofNat, h]
  have := x.toBitVec.isLt
  rw [h] at this
  unfold u32
  rw [show (2 ^ 32 : Nat) = 4294967296 from rfl] at this ⊢
  omega
theorem and31 (b : Nat) : ((q32 b) &&& 31).toBitVec = BitVec.ofNat 32 (u32 b % 32) := by
  rw [Int32.toBitVec_and, q32_bits]
  apply BitVec.eq_of_toNat_eq
  rw [BitVec.toNat_and, BitVec.toNat_ofNat, BitVec.toNat_ofNat]
  have e : (31 : Int32).toBitVec.toNat = 2 ^ 5 - 1 := by decide
  rw [e, Nat.and_two_pow_sub_one_eq_mod]
  have := @u32_lt b
  rw [show (2 ^ 32 : Nat) = 4294967296 from rfl]
  omega
theorem ishl_ok {a b : Nat} : q32 a <<< (q32 b &&& 31) = q32 (ishl a b) := by
  have e : (q32 a <<< (q32 b &&& 31)).toBitVec = (q32 a).toBitVec <<< (((q32 b) &&& 31).toBitVec.smod 32#32) := rfl
  have e2 : (((q32 b) &&& 31).toBitVec.smod 32#32) = BitVec.ofNat 32 (u32 b % 32) := by
    rw [and31]
    have hlt : u32 b % 32 < 32 := Nat.mod_lt _ (by decide)
    generalize u32 b % 32 = k at hlt
    have : ∀ k : Fin 32, (BitVec.ofNat 32 k.val).smod 32#32 = BitVec.ofNat 32 k.val := by decide
    exact this ⟨k, hlt⟩
  have hk : u32 b % 32 < 32 := Nat.mod_lt _ (by decide)
  have h3 : (q32 a <<< (q32 b &&& 31)).toBitVec.toNat = (u32 a * 2 ^ (u32 b % 32)) % 4294967296 := by
    rw [e, e2, q32_bits, BitVec.shiftLeft_eq', BitVec.toNat_shiftLeft, BitVec.toNat_ofNat, BitVec.toNat_ofNat, Nat.shiftLeft_eq]
    have h1 := @u32_lt a
    rw [show (2 ^ 32 : Nat) = 4294967296 from rfl, Nat.mod_eq_of_lt h1, Nat.mod_eq_of_lt (show u32 b % 32 < 4294967296 by omega)]
  rw [q32_of_bits h3]
  unfold ishl
  have : ∀ z : Nat, u32 (z % 4294967296) = u32 z := by intro z; unfold u32; omega
  rw [this]
theorem mod31 (b : Nat) : (((q32 b) &&& 31).toBitVec.smod 32#32) = BitVec.ofNat 32 (u32 b % 32) := by
  rw [and31]
  have hlt : u32 b % 32 < 32 := Nat.mod_lt _ (by decide)
  generalize u32 b % 32 = k at hlt
  have : ∀ k : Fin 32, (BitVec.ofNat 32 k.val).smod 32#32 = BitVec.ofNat 32 k.val := by decide
  exact this ⟨k, hlt⟩
theorem sh_nat (b : Nat) : (BitVec.ofNat 32 (u32 b % 32)).toNat = u32 b % 32 := by
  have hk : u32 b % 32 < 32 := Nat.mod_lt _ (by decide)
  rw [BitVec.toNat_ofNat, show (2 ^ 32 : Nat) = 4294967296 from rfl]
  omega
theorem lt_ishr {a b : Nat} (ha : a < 4294967296) : ishr a b < 4294967296 := by
  unfold ishr
  have hp : 0 < 2 ^ (u32 b % 32) := Nat.two_pow_pos _
  generalize 2 ^ (u32 b % 32) = P at hp
  apply Nat.div_lt_of_lt_mul
  omega
theorem ishr_ok {a b : Nat} (ha : a < 4294967296) : q32 a >>> (q32 b &&& 31) = q32 (ishr a b) := by
  apply Int32.toInt_inj.mp
  rw [q32_toInt (lt_ishr ha)]
  have e : (q32 a >>> (q32 b &&& 31)).toInt = ((q32 a).toBitVec.sshiftRight (((q32 b) &&& 31).toBitVec.smod 32#32).toNat).toInt := rfl
  rw [e, mod31, sh_nat, BitVec.toInt_sshiftRight, Int.shiftRight_eq_div_pow]
  have e2 : (q32 a).toBitVec.toInt = (a : Int) - 2147483648 := q32_toInt ha
  rw [e2]
  unfold ishr
  have hp : 0 < 2 ^ (u32 b % 32) := Nat.two_pow_pos _
  generalize 2 ^ (u32 b % 32) = P at hp
  have e3 : ((a + 2147483648 * P - 2147483648 : Nat) : Int) = ((a : Int) - 2147483648) + 2147483648 * (P : Int) := by omega
  rw [Int.natCast_ediv, e3, Int.add_mul_ediv_right _ _ (by omega)]
  omega
theorem so_ishl (C : CX p s m args c cc own nL Ts V) (F : FK G E D S V Ts) (hdg : decode cc pc = .ok (.ishl, 1)) (hs : xstep G E .ishl w st ls h = some (st', ls', h')) (kk : XW p l e R s m args below meth c Q G D S V nL n0 z0 (pc + 1) st' ls' h') : XW p l e R s m args below meth c Q G D S V nL n0 z0 pc st ls h := by
  obtain ⟨b, a, r, z, rfl, hb, rfl, rfl, rfl⟩ := bin_inv (i := .ishl) hs
  obtain ⟨x, y, rfl, rfl, rfl⟩ := xint_inv (show xint ishl a b = some z from hb)
  intro hn hz lsC stC H locs hL hS hX hl
  obtain ⟨vb, q, rfl, hvb, hS1⟩ := hS.cons
  obtain ⟨va, q, rfl, hva, hS2⟩ := hS1.cons
  have hvb := hvb.i0
  have hva := hva.i0
  rw [hvb.2, hva.2]
  refine lv_ishl C.1 C.2.1 hdg (kk hn hz _ _ _ _ hL ⟨⟨u32_lt, ?_⟩, hS2⟩ hX hl)
  rw [ishl_ok]
theorem so_ishr (C : CX p s m args c cc own nL Ts V) (F : FK G E D S V Ts) (hdg : decode cc pc = .ok (.ishr, 1)) (hs : xstep G E .ishr w st ls h = some (st', ls', h')) (kk : XW p l e R s m args below meth c Q G D S V nL n0 z0 (pc + 1) st' ls' h') : XW p l e R s m args below meth c Q G D S V nL n0 z0 pc st ls h := by
  obtain ⟨b, a, r, z, rfl, hb, rfl, rfl, rfl⟩ := bin_inv (i := .ishr) hs
  obtain ⟨x, y, rfl, rfl, rfl⟩ := xint_inv (show xint ishr a b = some z from hb)
  intro hn hz lsC stC H locs hL hS hX hl
  obtain ⟨vb, q, rfl, hvb, hS1⟩ := hS.cons
  obtain ⟨va, q, rfl, hva, hS2⟩ := hS1.cons
  have hvb := hvb.i0
  have hva := hva.i0
  rw [hvb.2, hva.2]
  refine lv_ishr C.1 C.2.1 hdg (kk hn hz _ _ _ _ hL ⟨⟨lt_ishr hva.1, ?_⟩, hS2⟩ hX hl)
  rw [ishr_ok hva.1]
theorem iushr_ok {a b : Nat} : ((q32 a).toUInt32 >>> ((q32 b).toUInt32 &&& Int32.toUInt32 31)).toInt32 = q32 (iushr a b) := by
  have e : ((q32 a).toUInt32 >>> ((q32 b).toUInt32 &&& Int32.toUInt32 31)).toInt32.toBitVec = (q32 a).toBitVec >>> (((q32 b) &&& 31).toBitVec % 32#32) := rfl
  have e2 : (((q32 b) &&& 31).toBitVec % 32#32) = BitVec.ofNat 32 (u32 b % 32) := by
    rw [and31]
    have hlt : u32 b % 32 < 32 := Nat.mod_lt _ (by decide)
    generalize u32 b % 32 = k at hlt
    have : ∀ k : Fin 32, BitVec.ofNat 32 k.val % 32#32 = BitVec.ofNat 32 k.val := by decide
    exact this ⟨k, hlt⟩
  have h3 : ((q32 a).toUInt32 >>> ((q32 b).toUInt32 &&& Int32.toUInt32 31)).toInt32.toBitVec.toNat = u32 a / 2 ^ (u32 b % 32) := by
    rw [e, e2, q32_bits, BitVec.ushiftRight_eq', BitVec.toNat_ushiftRight, sh_nat, BitVec.toNat_ofNat, Nat.shiftRight_eq_div_pow]
    have h1 := @u32_lt a
    rw [show (2 ^ 32 : Nat) = 4294967296 from rfl, Nat.mod_eq_of_lt h1]
  rw [q32_of_bits h3]; rfl
theorem so_iushr (C : CX p s m args c cc own nL Ts V) (F : FK G E D S V Ts) (hdg : decode cc pc = .ok (.iushr, 1)) (hs : xstep G E .iushr w st ls h = some (st', ls', h')) (kk : XW p l e R s m args below meth c Q G D S V nL n0 z0 (pc + 1) st' ls' h') : XW p l e R s m args below meth c Q G D S V nL n0 z0 pc st ls h := by
  obtain ⟨b, a, r, z, rfl, hb, rfl, rfl, rfl⟩ := bin_inv (i := .iushr) hs
  obtain ⟨x, y, rfl, rfl, rfl⟩ := xint_inv (show xint iushr a b = some z from hb)
  intro hn hz lsC stC H locs hL hS hX hl
  obtain ⟨vb, q, rfl, hvb, hS1⟩ := hS.cons
  obtain ⟨va, q, rfl, hva, hS2⟩ := hS1.cons
  have hvb := hvb.i0
  have hva := hva.i0
  rw [hvb.2, hva.2]
  exact lv_iushr C.1 C.2.1 hdg iushr_ok (kk hn hz _ _ _ _ hL ⟨⟨u32_lt, rfl⟩, hS2⟩ hX hl)
theorem i2b_ok {a : Nat} : (q32 a).toInt8.toInt32 = q32 (i2b a) := by
  apply Int32.toInt_inj.mp
  have e : (q32 a).toInt8 = Int8.ofNat (a + 2147483648) := by
    unfold q32
    apply Int8.toInt_inj.mp
    rw [Int32.toInt_toInt8, Int32.toInt_ofNat', Int8.toInt_ofNat', show Int32.size = 4294967296 from rfl, show Int8.size = 256 from rfl, bm32, show (2 ^ 8 : Nat) = 256 from rfl, bm8, bm8]
    split <;> split <;> split <;> omega
  have hl : i2b a < 4294967296 := by
    unfold i2b
    split <;> omega
  rw [Int8.toInt_toInt32, e, Int8.toInt_ofNat', show Int8.size = 256 from rfl, bm8, q32_toInt hl]
  unfold i2b u32
  by_cases hc : Nat.blt ((a + 2147483648) % 4294967296 % 256) 128 = true
  · rw [if_pos hc]
    have := blt_iff.mp hc
    split <;> omega
  · rw [if_neg hc]
    have : ¬ (a + 2147483648) % 4294967296 % 256 < 128 := fun q => hc (blt_iff.mpr q)
    split <;> omega
end BITS
