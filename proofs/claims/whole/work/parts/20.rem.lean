/-! REMAINDERS, BITS MOVED -/
section REM
variable {p : Program} {l : Launch} {e : Env} {R : Room} {s : State} {m : MethodId} {args : Array Value} {below : List Frame} {meth : Method} {c : Code} {Q : State → Prop} {G : xG} {E : List (Nat × Nat × Nat)} {D : xD} {S : xS} {V : State} {nL n0 z0 : Nat} {cc : ByteArray} {own : String} {Ts : List Jvm.Cond} {pc : Nat} {w : List Nat} {st ls st' ls' : List xV} {h h' : xH}
theorem irem_pos {k n : Nat} (h1 : 2147483648 ≤ k) (h2 : 2147483648 ≤ n) (hk : k < 4294967296) : irem k n = (k - 2147483648) % (n - 2147483648) + 2147483648 := by
  have e1 : iabs k = k - 2147483648 := by unfold iabs; exact if_pos (ble_iff.mpr h1)
  have e2 : iabs n = n - 2147483648 := by unfold iabs; exact if_pos (ble_iff.mpr h2)
  have e3 : Nat.blt k 2147483648 = false := bool_not fun q => by have := blt_iff.mp q; omega
  have h3 : (k - 2147483648) % (n - 2147483648) ≤ k - 2147483648 := Nat.mod_le _ _
  unfold irem isgn
  rw [e3, e1, e2, if_neg Bool.false_ne_true, Nat.mod_eq_of_lt (by omega)]
theorem so_irem (C : CX p s m args c cc own nL Ts V) (F : FK G E D S V Ts) (hdg : decode cc pc = .ok (.irem, 1)) (hs : xstep G E .irem w st ls h = some (st', ls', h')) (kk : XW p l e R s m args below meth c Q G D S V nL n0 z0 (pc + 1) st' ls' h') : XW p l e R s m args below meth c Q G D S V nL n0 z0 pc st ls h := by
  obtain ⟨b, a, r, z, rfl, hb, rfl, rfl, rfl⟩ := bin_inv (i := .irem) hs
  replace hb : xrem E a b = some z := hb
  obtain ⟨ta, x⟩ := a
  obtain ⟨tb, y⟩ := b
  unfold xrem at hb
  dsimp only at hb
  split at hb
  · split at hb
    · cases hb
    · next h0 =>
      cases hb
      intro hn hz lsC stC H locs hL hS hX hl
      obtain ⟨vb, q, rfl, hvb, hS1⟩ := hS.cons
      obtain ⟨va, q, rfl, hva, hS2⟩ := hS1.cons
      have hvb := hvb.i0
      have hva := hva.i0
      rw [hvb.2, hva.2]
      refine lv_irem C.1 C.2.1 hdg (q32_ne0 hvb.1 fun q => h0 (beq_iff.mpr q)) (kk hn hz _ _ _ _ hL ⟨⟨lt_isgn, ?_⟩, hS2⟩ hX hl)
      rw [irem_ok hva.1 hvb.1]
  · split at hb
    · next lo hi stp he =>
      split at hb
      · next hc =>
        cases hb
        rw [Bool.and_eq_true, Bool.and_eq_true] at hc
        have c1 := ble_iff.mp hc.1.1
        have c2 := blt_iff.mp hc.1.2
        have c3 := beq_iff.mp hc.2
        intro hn hz lsC stC H locs hL hS hX hl
        obtain ⟨vb, q, rfl, hvb, hS1⟩ := hS.cons
        obtain ⟨va, q, rfl, hva, hS2⟩ := hS1.cons
        have hvb := hvb.i0
        obtain ⟨x0, e0, hx⟩ := hva
        obtain ⟨k, k1, k2, k3⟩ := q32_of (x := x0)
        obtain ⟨b1, b2, b3, b4⟩ := xbd_spec F.1 he hx
        have hm : (k - 2147483648) % (y - 2147483648) = (lo - 2147483648) % (y - 2147483648) := by
          have d1 : (stp : Int) ∣ ((k - lo : Nat) : Int) := by
            rw [show ((k - lo : Nat) : Int) = x0.toInt + 2147483648 - lo by omega]
            exact Int.dvd_of_emod_eq_zero b4
          have d2 : stp ∣ k - lo := Int.natCast_dvd_natCast.mp d1
          obtain ⟨t, ht⟩ := Nat.dvd_trans (Nat.dvd_of_mod_eq_zero c3) d2
          rw [show k - 2147483648 = (lo - 2147483648) + (y - 2147483648) * t by rw [← ht]; omega, Nat.add_mul_mod_self_left]
        have hlt : (lo - 2147483648) % (y - 2147483648) < y - 2147483648 := Nat.mod_lt _ (by omega)
        rw [hvb.2, e0, k2]
        have hyl := hvb.1
        refine lv_irem C.1 C.2.1 hdg (q32_ne0 hvb.1 (by omega)) (kk hn hz _ _ _ _ hL ⟨⟨by omega, ?_⟩, hS2⟩ hX hl)
        rw [irem_ok k1 hvb.1, irem_pos (by omega) (by omega) k1, hm]
      · cases hb
    · cases hb
  · cases hb
end REM
