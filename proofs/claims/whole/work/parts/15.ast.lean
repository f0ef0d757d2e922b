/-! ARRAYS WRITTEN -/
section AST
variable {p : Program} {l : Launch} {e : Env} {R : Room} {s : State} {m : MethodId} {args : Array Value} {below : List Frame} {meth : Method} {c : Code} {Q : State → Prop} {G : xG} {E : List (Nat × Nat × Nat)} {D : xD} {S : xS} {V : State} {nL n0 z0 : Nat} {cc : ByteArray} {own : String} {Ts : List Jvm.Cond} {pc t : Nat} {w : List Nat} {st ls st' ls' : List xV} {h h' : xH}
theorem set_slot {cell : Cell} {k j : Nat} {v : Value} (hk : k < cell.slots.size) : (cell.setSlot k v).slots[j]? = if j = k then some v else cell.slots[j]? := by
  show (cell.slots.setIfInBounds k v)[j]? = _
  rw [Array.getElem?_setIfInBounds]
  by_cases e : k = j
  · rw [if_pos e, if_pos e.symm, if_pos (by omega)]
  · rw [if_neg e, if_neg (fun q => e q.symm)]
theorem NC.set {cl : xC} {cell : Cell} {k : Nat} {a : xV} {v : Value} (hN : NC G D S V cl cell) (ht : cl.1.1 % 2 = 1) (hk : k < cl.1.2.1) (hr : RV S a v) : NC G D S V (cset cl k a) (cell.setSlot k v) := by
  obtain ⟨⟨h1, h2⟩, h3, h4⟩ := hN
  refine ⟨⟨fun _ => ?_, fun q => ?_⟩, h3, fun _ => h4 ht⟩
  · obtain ⟨e0, e1, e2, e3, e4, e5⟩ := h1 ht
    refine ⟨e0, e1, e2, ?_, e4, fun j hj => ?_⟩
    · show (cell.slots.setIfInBounds k v).size = _
      rw [Array.size_setIfInBounds]; exact e3
    · rw [set_slot (by rw [e3]; exact hk), cget_cset]
      by_cases e : j = k
      · rw [if_pos e, if_pos e]; exact ⟨v, rfl, hr⟩
      · rw [if_neg e, if_neg e]; exact e5 j hj
  · have q : cl.1.1 % 2 = 0 := q
    omega
theorem ast_inv (hs : xast G E t st ls h = some (st', ls', h')) : ∃ v i a r q cl k, st = v :: i :: a :: r ∧ xnewk h a = some q ∧ hget h q = some cl ∧ cl.1.1 % 2 = 1 ∧ cl.1.1 / 2 = t ∧ xfits E t v = true ∧ xidx cl i = some k ∧ st' = r ∧ ls' = ls ∧ h' = hset h q (cset cl k v) := by
  unfold xast at hs
  split at hs
  · next v i a r =>
    split at hs
    · next q hq =>
      split at hs
      · next cl hc =>
        split at hs
        · next hb =>
          rw [Bool.and_eq_true] at hb
          have hb1 := beq_iff.mp hb.1
          split at hs
          · next k hk =>
            cases hs
            exact ⟨v, i, a, _, q, cl, k, rfl, hq, hc, by omega, by omega, hb.2, hk, rfl, rfl, rfl⟩
          · cases hs
        · cases hs
      · cases hs
    · cases hs
  · cases hs
theorem ast_core (C : CX p s m args c cc own nL Ts V) (F : FK G E D S V Ts) {v i a : xV} {r : List xV} {q : Nat} {cl : xC} {k : Nat} (hq : xnewk h a = some q) (hc : hget h q = some cl) (ht : cl.1.1 % 2 = 1) (hi : xidx cl i = some k) {stC : List Value} {H : Heap} (hS : RVs S (v :: i :: a :: r) stC) (hX : XH G D S V h H) :
    ∃ (cell : Cell) (j : Int32) (x : Value) (rest : List Value), stC = x :: .int j :: .ref (S.2.1 + q) :: rest ∧ q < h.1 ∧ H[S.2.1 + q]? = some cell ∧ cl.1.1 / 2 < G.2.2.1.length ∧ s.isArrayOf cell (xat G (cl.1.1 / 2)) ∧ cell.vm ≠ .unknown ∧ ¬ (j < 0 ∨ cell.slots.size ≤ j.toNatClampNeg) ∧ j.toNatClampNeg = k ∧ RV S v x ∧ k < cl.1.2.1 ∧ NC G D S V cl cell ∧ RVs S r rest := by
  obtain ⟨x, q1, rfl, hv, hS0⟩ := hS.cons
  obtain ⟨vi, q1, rfl, hvi, hS1⟩ := hS0.cons
  obtain ⟨va, q2, rfl, hva, hS2⟩ := hS1.cons
  obtain ⟨hlt, j, rfl, hj0, hj⟩ := xidx_spec hi hvi
  obtain ⟨hq1, rfl⟩ := xnewk_spec hq hva
  obtain ⟨cell, hH, hN⟩ := hX.new_at hq1 hc
  obtain ⟨h0, h1, h2, h3, h4, h5⟩ := hN.1.1 ht
  refine ⟨cell, j, x, q2, rfl, hq1, hH, h0, State.isArrayOf_alike C.2.2.2.2.2 h1, h2, ?_, hj, hv, hlt, hN, hS2⟩
  rintro (z | z)
  · exact hj0 z
  · rw [hj, h3] at z; omega
theorem locs_ok {b : Nat} {locs : List Loc} {a j : Nat} (h : ∀ q ∈ locs, b ≤ q.base) : ∀ q ∈ locs ++ [⟨b + a, j⟩], b ≤ q.base := by
  intro q hq
  rcases List.mem_append.mp hq with z | z
  · exact h q z
  · rw [List.mem_singleton.mp z]; exact Nat.le_add_right _ _
theorem xnarrow_byte (x : Int32) : narrow .byte (.int x) = .int x.toInt8.toInt32 := rfl
theorem xnarrow_char (x : Int32) : narrow .char (.int x) = .int x.toUInt32.toUInt16.toUInt32.toInt32 := rfl
theorem char_bits (x : Int32) : x.toUInt32.toUInt16.toUInt32.toInt32.toBitVec = (x.toBitVec.setWidth 16).setWidth 32 := rfl
theorem bm8 (x : Int) : x.bmod 256 = if x % 256 < 128 then x % 256 else x % 256 - 256 := by
  have e1 : ((256 : Nat) : Int) = 256 := rfl
  have e2 : ((256 : Int) + 1) / 2 = 128 := by decide
  unfold Int.bmod; rw [e1, e2]
theorem fits_byte {n : Nat} (h1 : 2147483520 ≤ n) (h2 : n ≤ 2147483775) : narrow .byte (.int (q32 n)) = .int (q32 n) := by
  rw [xnarrow_byte]
  refine congrArg Value.int ?_
  apply Int32.toInt_inj.mp
  rw [Int8.toInt_toInt32, Int32.toInt_toInt8, q32_toInt (by omega)]
  rw [show (2 ^ 8 : Nat) = 256 from rfl, bm8]
  split <;> omega
theorem fits_bool {n : Nat} (h : n = 2147483648 ∨ n = 2147483649) : narrow .boolean (.int (q32 n)) = .int (q32 n) := by
  rcases h with rfl | rfl <;> decide
theorem fits_char {n : Nat} (h1 : 2147483648 ≤ n) (h2 : n ≤ 2147549183) : narrow .char (.int (q32 n)) = .int (q32 n) := by
  rw [xnarrow_char]
  refine congrArg Value.int ?_
  apply Int32.toBitVec_inj.mp
  apply BitVec.eq_of_toNat_eq
  have e : (q32 n).toBitVec = BitVec.ofNat 32 (n + 2147483648) := rfl
  rw [char_bits, BitVec.toNat_setWidth, BitVec.toNat_setWidth, e, BitVec.toNat_ofNat]
  omega
theorem so_iast (C : CX p s m args c cc own nL Ts V) (F : FK G E D S V Ts) (hA : xat G 0 = .int) (hdg : decode cc pc = .ok (.iastore, 1)) (hs : xast G E 0 st ls h = some (st', ls', h')) (kk : XW p l e R s m args below meth c Q G D S V nL n0 z0 (pc + 1) st' ls' h') : XW p l e R s m args below meth c Q G D S V nL n0 z0 pc st ls h := by
  obtain ⟨v, i, a, r, q, cl, k, rfl, hq, hc, ht, ht2, hf, hi, rfl, rfl, rfl⟩ := ast_inv hs
  intro hn hz lsC stC H locs hL hS hX hl
  obtain ⟨cell, j, x0, rest, rfl, h1, h2, h0, h3, h4, h5, h6, hv, h7, h8, h9⟩ := ast_core C F hq hc ht hi hS hX
  rw [ht2, hA] at h3
  obtain ⟨x, rfl⟩ := hv.int hf
  refine W.iast C.1 C.2.1 h2 h3 h4 h5 rfl rfl hdg fun H' g1 g2 g3 => kk hn hz _ _ _ _ hL h9 (hX.set h1 (h8.set ht h7 hv) (by rw [← h6]; exact g1) g2 g3) (locs_ok hl)
theorem so_last (C : CX p s m args c cc own nL Ts V) (F : FK G E D S V Ts) (hA : xat G 1 = .long) (hdg : decode cc pc = .ok (.lastore, 1)) (hs : xast G E 1 st ls h = some (st', ls', h')) (kk : XW p l e R s m args below meth c Q G D S V nL n0 z0 (pc + 1) st' ls' h') : XW p l e R s m args below meth c Q G D S V nL n0 z0 pc st ls h := by
  obtain ⟨v, i, a, r, q, cl, k, rfl, hq, hc, ht, ht2, hf, hi, rfl, rfl, rfl⟩ := ast_inv hs
  intro hn hz lsC stC H locs hL hS hX hl
  obtain ⟨cell, j, x0, rest, rfl, h1, h2, h0, h3, h4, h5, h6, hv, h7, h8, h9⟩ := ast_core C F hq hc ht hi hS hX
  rw [ht2, hA] at h3
  obtain ⟨x, rfl⟩ := hv.long hf
  refine W.last C.1 C.2.1 h2 h3 h4 h5 rfl rfl hdg fun H' g1 g2 g3 => kk hn hz _ _ _ _ hL h9 (hX.set h1 (h8.set ht h7 hv) (by rw [← h6]; exact g1) g2 g3) (locs_ok hl)
theorem so_dast (C : CX p s m args c cc own nL Ts V) (F : FK G E D S V Ts) (hA : xat G 5 = .double) (hdg : decode cc pc = .ok (.dastore, 1)) (hs : xast G E 5 st ls h = some (st', ls', h')) (kk : XW p l e R s m args below meth c Q G D S V nL n0 z0 (pc + 1) st' ls' h') : XW p l e R s m args below meth c Q G D S V nL n0 z0 pc st ls h := by
  obtain ⟨v, i, a, r, q, cl, k, rfl, hq, hc, ht, ht2, hf, hi, rfl, rfl, rfl⟩ := ast_inv hs
  intro hn hz lsC stC H locs hL hS hX hl
  obtain ⟨cell, j, x0, rest, rfl, h1, h2, h0, h3, h4, h5, h6, hv, h7, h8, h9⟩ := ast_core C F hq hc ht hi hS hX
  rw [ht2, hA] at h3
  obtain ⟨x, rfl⟩ := hv.dbl hf
  refine W.dast C.1 C.2.1 h2 h3 h4 h5 rfl rfl hdg fun H' g1 g2 g3 => kk hn hz _ _ _ _ hL h9 (hX.set h1 (h8.set ht h7 hv) (by rw [← h6]; exact g1) g2 g3) (locs_ok hl)
theorem so_zast (C : CX p s m args c cc own nL Ts V) (F : FK G E D S V Ts) (hA : xat G 2 = .boolean) (hdg : decode cc pc = .ok (.bastore, 1)) (hs : xast G E 2 st ls h = some (st', ls', h')) (kk : XW p l e R s m args below meth c Q G D S V nL n0 z0 (pc + 1) st' ls' h') : XW p l e R s m args below meth c Q G D S V nL n0 z0 pc st ls h := by
  obtain ⟨v, i, a, r, q, cl, k, rfl, hq, hc, ht, ht2, hf, hi, rfl, rfl, rfl⟩ := ast_inv hs
  intro hn hz lsC stC H locs hL hS hX hl
  obtain ⟨cell, j, x0, rest, rfl, h1, h2, h0, h3, h4, h5, h6, hv, h7, h8, h9⟩ := ast_core C F hq hc ht hi hS hX
  rw [ht2, hA] at h3
  obtain ⟨tv, n⟩ := v
  replace hf : (match (generalizing := false) tv with | 0 => Nat.beq n 2147483648 || Nat.beq n 2147483649 | _ => false) = true := hf
  split at hf
  · have hv' := hv.i0
    have e := fits_bool (by rw [Bool.or_eq_true, beq_iff, beq_iff] at hf; exact hf)
    rw [hv'.2] at hv ⊢
    refine W.zast C.1 C.2.1 h2 h3 h4 h5 rfl rfl hdg fun H' g1 g2 g3 => kk hn hz _ _ _ _ hL h9 (hX.set h1 (h8.set ht h7 hv) (by rw [← h6, ← e]; exact g1) g2 g3) (locs_ok hl)
  · cases hf
theorem so_bast (C : CX p s m args c cc own nL Ts V) (F : FK G E D S V Ts) (hA : xat G 3 = .byte) (hdg : decode cc pc = .ok (.bastore, 1)) (hs : xast G E 3 st ls h = some (st', ls', h')) (kk : XW p l e R s m args below meth c Q G D S V nL n0 z0 (pc + 1) st' ls' h') : XW p l e R s m args below meth c Q G D S V nL n0 z0 pc st ls h := by
  obtain ⟨v, i, a, r, q, cl, k, rfl, hq, hc, ht, ht2, hf, hi, rfl, rfl, rfl⟩ := ast_inv hs
  intro hn hz lsC stC H locs hL hS hX hl
  obtain ⟨cell, j, x0, rest, rfl, h1, h2, h0, h3, h4, h5, h6, hv, h7, h8, h9⟩ := ast_core C F hq hc ht hi hS hX
  rw [ht2, hA] at h3
  obtain ⟨tv, n⟩ := v
  replace hf : (match (generalizing := false) tv with | 0 => Nat.ble 2147483520 n && Nat.ble n 2147483775 | _ => false) = true := hf
  split at hf
  · have hv' := hv.i0
    have e := fits_byte (by rw [Bool.and_eq_true] at hf; exact ble_iff.mp hf.1) (by rw [Bool.and_eq_true] at hf; exact ble_iff.mp hf.2)
    rw [hv'.2] at hv ⊢
    refine W.bast C.1 C.2.1 h2 h3 h4 h5 rfl rfl hdg fun H' g1 g2 g3 => kk hn hz _ _ _ _ hL h9 (hX.set h1 (h8.set ht h7 hv) (by rw [← h6, ← e]; exact g1) g2 g3) (locs_ok hl)
  · cases hf
theorem so_cast (C : CX p s m args c cc own nL Ts V) (F : FK G E D S V Ts) (hA : xat G 4 = .char) (hdg : decode cc pc = .ok (.castore, 1)) (hs : xast G E 4 st ls h = some (st', ls', h')) (kk : XW p l e R s m args below meth c Q G D S V nL n0 z0 (pc + 1) st' ls' h') : XW p l e R s m args below meth c Q G D S V nL n0 z0 pc st ls h := by
  obtain ⟨v, i, a, r, q, cl, k, rfl, hq, hc, ht, ht2, hf, hi, rfl, rfl, rfl⟩ := ast_inv hs
  intro hn hz lsC stC H locs hL hS hX hl
  obtain ⟨cell, j, x0, rest, rfl, h1, h2, h0, h3, h4, h5, h6, hv, h7, h8, h9⟩ := ast_core C F hq hc ht hi hS hX
  rw [ht2, hA] at h3
  obtain ⟨tv, n⟩ := v
  replace hf : (match (generalizing := false) tv with | 0 => Nat.ble 2147483648 n && Nat.ble n 2147549183 | _ => false) = true := hf
  split at hf
  · have hv' := hv.i0
    have e := fits_char (by rw [Bool.and_eq_true] at hf; exact ble_iff.mp hf.1) (by rw [Bool.and_eq_true] at hf; exact ble_iff.mp hf.2)
    rw [hv'.2] at hv ⊢
    refine W.cast C.1 C.2.1 h2 h3 h4 h5 rfl rfl hdg fun H' g1 g2 g3 => kk hn hz _ _ _ _ hL h9 (hX.set h1 (h8.set ht h7 hv) (by rw [← h6, ← e]; exact g1) g2 g3) (locs_ok hl)
  · cases hf
end AST
