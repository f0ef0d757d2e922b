/-! BYTES AND SIGNS -/
section CONV
variable {p : Program} {l : Launch} {e : Env} {R : Room} {s : State} {m : MethodId} {args : Array Value} {below : List Frame} {meth : Method} {c : Code} {Q : State → Prop} {G : xG} {E : List (Nat × Nat × Nat)} {D : xD} {S : xS} {V : State} {nL n0 z0 : Nat} {cc : ByteArray} {own : String} {Ts : List Jvm.Cond} {pc : Nat} {w : List Nat} {st ls st' ls' : List xV} {h h' : xH}
theorem lt_i2b {a : Nat} : i2b a < 4294967296 := by
  unfold i2b
  split <;> omega
theorem i2c_ok {a : Nat} : ((q32 a).toUInt32 % 65536).toInt32 = q32 (i2c a) := by
  have e : ((q32 a).toUInt32 % 65536).toInt32.toBitVec = (q32 a).toBitVec % 65536#32 := rfl
  have h3 : ((q32 a).toUInt32 % 65536).toInt32.toBitVec.toNat = u32 a % 65536 := by
    rw [e, q32_bits, BitVec.toNat_umod, BitVec.toNat_ofNat, BitVec.toNat_ofNat]
    have h1 := @u32_lt a
    rw [show (2 ^ 32 : Nat) = 4294967296 from rfl, Nat.mod_eq_of_lt h1]
  rw [q32_of_bits h3]
  unfold i2c
  have : u32 a % 65536 < 65536 := Nat.mod_lt _ (by decide)
  generalize u32 a % 65536 = z at this
  rw [show u32 z = z + 2147483648 by unfold u32; omega]
theorem lt_i2c {a : Nat} : i2c a < 4294967296 := by unfold i2c; omega
theorem so_i2b (C : CX p s m args c cc own nL Ts V) (F : FK G E D S V Ts) (hdg : decode cc pc = .ok (.i2b, 1)) (hs : xstep G E .i2b w st ls h = some (st', ls', h')) (kk : XW p l e R s m args below meth c Q G D S V nL n0 z0 (pc + 1) st' ls' h') : XW p l e R s m args below meth c Q G D S V nL n0 z0 pc st ls h := by
  obtain ⟨a, r, z, rfl, hb, rfl, rfl, rfl⟩ := un_inv (i := .i2b) hs
  obtain ⟨t, n⟩ := a
  replace hb : (match (generalizing := false) t with | 0 => some (0, i2b n) | _ => none) = some z := hb
  split at hb
  · cases hb
    intro hn hz lsC stC H locs hL hS hX hl
    obtain ⟨va, q, rfl, hva, hS2⟩ := hS.cons
    have hva := hva.i0
    rw [hva.2]
    exact lv_i2b C.1 C.2.1 hdg i2b_ok (kk hn hz _ _ _ _ hL ⟨⟨lt_i2b, rfl⟩, hS2⟩ hX hl)
  · cases hb
theorem so_i2c (C : CX p s m args c cc own nL Ts V) (F : FK G E D S V Ts) (hdg : decode cc pc = .ok (.i2c, 1)) (hs : xstep G E .i2c w st ls h = some (st', ls', h')) (kk : XW p l e R s m args below meth c Q G D S V nL n0 z0 (pc + 1) st' ls' h') : XW p l e R s m args below meth c Q G D S V nL n0 z0 pc st ls h := by
  obtain ⟨a, r, z, rfl, hb, rfl, rfl, rfl⟩ := un_inv (i := .i2c) hs
  obtain ⟨t, n⟩ := a
  replace hb : (match (generalizing := false) t with
    | 0 => some (0, i2c n)
    | 5 => (match xbd E n with | some (lo, hi, _) => if Nat.ble 2147483648 lo && Nat.blt hi 2147549184 then some (t, n) else none | none => none)
    | _ => none) = some z := hb
  split at hb
  · cases hb
    intro hn hz lsC stC H locs hL hS hX hl
    obtain ⟨va, q, rfl, hva, hS2⟩ := hS.cons
    have hva := hva.i0
    rw [hva.2]
    exact lv_i2c C.1 C.2.1 hdg i2c_ok (kk hn hz _ _ _ _ hL ⟨⟨lt_i2c, rfl⟩, hS2⟩ hX hl)
  · split at hb
    · next lo hi stp he =>
      split at hb
      · next hc =>
        cases hb
        rw [Bool.and_eq_true] at hc
        have c1 := ble_iff.mp hc.1
        have c2 := blt_iff.mp hc.2
        intro hn hz lsC stC H locs hL hS hX hl
        obtain ⟨va, q, rfl, hva, hS2⟩ := hS.cons
        obtain ⟨x0, e0, hx⟩ := id hva
        obtain ⟨k, k1, k2, k3⟩ := q32_of (x := x0)
        obtain ⟨b1, b2, b3, b4⟩ := xbd_spec F.1 he hx
        have hk : i2c k = k := by unfold i2c u32; omega
        rw [e0, k2] at hva ⊢
        exact lv_i2c C.1 C.2.1 hdg (by rw [i2c_ok, hk]) (kk hn hz _ _ _ _ hL ⟨hva, hS2⟩ hX hl)
      · cases hb
    · cases hb
  · cases hb
end CONV
