/-! MORE NUMBERS -/
theorem l2i_ok {a : Nat} (ha : a < 18446744073709551616) : (q64 a).toInt32 = q32 (l2i a) := by
  apply Int32.toInt_inj.mp
  rw [Int64.toInt_toInt32, q64_toInt ha, q32_toInt (show l2i a < 4294967296 from u32_lt), show (2 ^ 32 : Nat) = 4294967296 from rfl, bm32]
  unfold l2i u32 u64
  split <;> omega
/-! WHAT IS RECKONED, AND WHAT MOVES ON THE STACK -/
section BIN
variable {p : Program} {l : Launch} {e : Env} {R : Room} {s : State} {m : MethodId} {args : Array Value} {below : List Frame} {meth : Method} {c : Code} {Q : State → Prop} {G : xG} {E : List (Nat × Nat × Nat)} {D : xD} {S : xS} {V : State} {nL n0 z0 : Nat} {cc : ByteArray} {own : String} {Ts : List Jvm.Cond} {pc : Nat} {w : List Nat} {st ls st' ls' : List xV} {h h' : xH}
theorem bin_inv {i : ClassFile.Instr} (hs : (match st with | y :: x :: r => (match xbin E i x y with | some v => xforce v.2 fun z => some ((v.1, z) :: r, ls, h) | none => none) | _ => none) = some (st', ls', h')) : ∃ y x r v, st = y :: x :: r ∧ xbin E i x y = some v ∧ st' = v :: r ∧ ls' = ls ∧ h' = h := by
  split at hs
  · next y x r =>
    split at hs
    · next v hv =>
      rw [xforce_eq] at hs
      cases hs
      exact ⟨y, x, r, v, rfl, hv, rfl, rfl, rfl⟩
    · cases hs
  · cases hs
theorem un_inv {i : ClassFile.Instr} (hs : (match st with | x :: r => (match xun E i x with | some v => xforce v.2 fun z => some ((v.1, z) :: r, ls, h) | none => none) | [] => none) = some (st', ls', h')) : ∃ x r v, st = x :: r ∧ xun E i x = some v ∧ st' = v :: r ∧ ls' = ls ∧ h' = h := by
  split at hs
  · next x r =>
    split at hs
    · next v hv =>
      rw [xforce_eq] at hs
      cases hs
      exact ⟨x, r, v, rfl, hv, rfl, rfl, rfl⟩
    · cases hs
  · cases hs
theorem xint_inv {f : Nat → Nat → Nat} {x y r : xV} (h : xint f x y = some r) : ∃ a b, x = (0, a) ∧ y = (0, b) ∧ r = (0, f a b) := by
  obtain ⟨tx, a⟩ := x
  obtain ⟨ty, b⟩ := y
  unfold xint at h
  dsimp only at h
  split at h
  · cases h; exact ⟨a, b, rfl, rfl, rfl⟩
  · cases h
theorem xlong_inv {f : Nat → Nat → Nat} {x y r : xV} (h : xlong f x y = some r) : ∃ a b, x = (2, a) ∧ y = (2, b) ∧ r = (2, f a b) := by
  obtain ⟨tx, a⟩ := x
  obtain ⟨ty, b⟩ := y
  unfold xlong at h
  dsimp only at h
  split at h
  · cases h; exact ⟨a, b, rfl, rfl, rfl⟩
  · cases h
theorem lt_iand {a b : Nat} : iand a b < 4294967296 := u32_lt
theorem lt_ior {a b : Nat} : ior a b < 4294967296 := u32_lt
theorem lt_ixor {a b : Nat} : ixor a b < 4294967296 := u32_lt
theorem lt_ladd {a b : Nat} : ladd a b < 18446744073709551616 := Nat.mod_lt _ (by decide)
theorem lt_lsub {a b : Nat} : lsub a b < 18446744073709551616 := Nat.mod_lt _ (by decide)
theorem lt_lmul {a b : Nat} : lmul a b < 18446744073709551616 := Nat.mod_lt _ (by decide)
theorem RV.i0 {S : xS} {n : Nat} {v : Value} (h : RV S (0, n) v) : n < 4294967296 ∧ v = .int (q32 n) := h
theorem RV.l2 {S : xS} {n : Nat} {v : Value} (h : RV S (2, n) v) : n < 18446744073709551616 ∧ v = .long (q64 n) := h
theorem so_iadd (C : CX p s m args c cc own nL Ts V) (F : FK G E D S V Ts) (hdg : decode cc pc = .ok (.iadd, 1)) (hs : xstep G E .iadd w st ls h = some (st', ls', h')) (kk : XW p l e R s m args below meth c Q G D S V nL n0 z0 (pc + 1) st' ls' h') : XW p l e R s m args below meth c Q G D S V nL n0 z0 pc st ls h := by
  obtain ⟨b, a, r, z, rfl, hb, rfl, rfl, rfl⟩ := bin_inv (i := .iadd) hs
  intro hn hz lsC stC H locs hL hS hX hl
  obtain ⟨vb, q, rfl, hvb, hS1⟩ := hS.cons
  obtain ⟨va, q, rfl, hva, hS2⟩ := hS1.cons
  obtain ⟨x, y, rfl, rfl, hr, -⟩ := xadd_spec F.1 (show xadd E a b = some z from hb) hva hvb
  exact lv_iadd C.1 C.2.1 hdg (kk hn hz _ _ _ _ hL ⟨hr, hS2⟩ hX hl)
theorem so_isub (C : CX p s m args c cc own nL Ts V) (F : FK G E D S V Ts) (hdg : decode cc pc = .ok (.isub, 1)) (hs : xstep G E .isub w st ls h = some (st', ls', h')) (kk : XW p l e R s m args below meth c Q G D S V nL n0 z0 (pc + 1) st' ls' h') : XW p l e R s m args below meth c Q G D S V nL n0 z0 pc st ls h := by
  obtain ⟨b, a, r, z, rfl, hb, rfl, rfl, rfl⟩ := bin_inv (i := .isub) hs
  obtain ⟨x, y, rfl, rfl, rfl⟩ := xint_inv (show xint isub a b = some z from hb)
  intro hn hz lsC stC H locs hL hS hX hl
  obtain ⟨vb, q, rfl, hvb, hS⟩ := hS.cons
  obtain ⟨va, q, rfl, hva, hS⟩ := hS.cons
  have hvb := hvb.i0
  have hva := hva.i0
  rw [hvb.2, hva.2]
  refine lv_isub C.1 C.2.1 hdg (kk hn hz _ _ _ _ hL ⟨⟨lt_isub, ?_⟩, hS⟩ hX hl)
  rw [isub_ok hvb.1]
theorem so_imul (C : CX p s m args c cc own nL Ts V) (F : FK G E D S V Ts) (hdg : decode cc pc = .ok (.imul, 1)) (hs : xstep G E .imul w st ls h = some (st', ls', h')) (kk : XW p l e R s m args below meth c Q G D S V nL n0 z0 (pc + 1) st' ls' h') : XW p l e R s m args below meth c Q G D S V nL n0 z0 pc st ls h := by
  obtain ⟨b, a, r, z, rfl, hb, rfl, rfl, rfl⟩ := bin_inv (i := .imul) hs
  obtain ⟨x, y, rfl, rfl, rfl⟩ := xint_inv (show xint imul a b = some z from hb)
  intro hn hz lsC stC H locs hL hS hX hl
  obtain ⟨vb, q, rfl, hvb, hS⟩ := hS.cons
  obtain ⟨va, q, rfl, hva, hS⟩ := hS.cons
  have hvb := hvb.i0
  have hva := hva.i0
  rw [hvb.2, hva.2]
  refine lv_imul C.1 C.2.1 hdg (kk hn hz _ _ _ _ hL ⟨⟨lt_imul, ?_⟩, hS⟩ hX hl)
  rw [imul_ok]
theorem so_iand (C : CX p s m args c cc own nL Ts V) (F : FK G E D S V Ts) (hdg : decode cc pc = .ok (.iand, 1)) (hs : xstep G E .iand w st ls h = some (st', ls', h')) (kk : XW p l e R s m args below meth c Q G D S V nL n0 z0 (pc + 1) st' ls' h') : XW p l e R s m args below meth c Q G D S V nL n0 z0 pc st ls h := by
  obtain ⟨b, a, r, z, rfl, hb, rfl, rfl, rfl⟩ := bin_inv (i := .iand) hs
  obtain ⟨x, y, rfl, rfl, rfl⟩ := xint_inv (show xint iand a b = some z from hb)
  intro hn hz lsC stC H locs hL hS hX hl
  obtain ⟨vb, q, rfl, hvb, hS⟩ := hS.cons
  obtain ⟨va, q, rfl, hva, hS⟩ := hS.cons
  have hvb := hvb.i0
  have hva := hva.i0
  rw [hvb.2, hva.2]
  refine lv_iand C.1 C.2.1 hdg (kk hn hz _ _ _ _ hL ⟨⟨lt_iand, ?_⟩, hS⟩ hX hl)
  rw [iand_ok]
theorem so_ior (C : CX p s m args c cc own nL Ts V) (F : FK G E D S V Ts) (hdg : decode cc pc = .ok (.ior, 1)) (hs : xstep G E .ior w st ls h = some (st', ls', h')) (kk : XW p l e R s m args below meth c Q G D S V nL n0 z0 (pc + 1) st' ls' h') : XW p l e R s m args below meth c Q G D S V nL n0 z0 pc st ls h := by
  obtain ⟨b, a, r, z, rfl, hb, rfl, rfl, rfl⟩ := bin_inv (i := .ior) hs
  obtain ⟨x, y, rfl, rfl, rfl⟩ := xint_inv (show xint ior a b = some z from hb)
  intro hn hz lsC stC H locs hL hS hX hl
  obtain ⟨vb, q, rfl, hvb, hS⟩ := hS.cons
  obtain ⟨va, q, rfl, hva, hS⟩ := hS.cons
  have hvb := hvb.i0
  have hva := hva.i0
  rw [hvb.2, hva.2]
  refine lv_ior C.1 C.2.1 hdg (kk hn hz _ _ _ _ hL ⟨⟨lt_ior, ?_⟩, hS⟩ hX hl)
  rw [ior_ok]
theorem so_ixor (C : CX p s m args c cc own nL Ts V) (F : FK G E D S V Ts) (hdg : decode cc pc = .ok (.ixor, 1)) (hs : xstep G E .ixor w st ls h = some (st', ls', h')) (kk : XW p l e R s m args below meth c Q G D S V nL n0 z0 (pc + 1) st' ls' h') : XW p l e R s m args below meth c Q G D S V nL n0 z0 pc st ls h := by
  obtain ⟨b, a, r, z, rfl, hb, rfl, rfl, rfl⟩ := bin_inv (i := .ixor) hs
  obtain ⟨x, y, rfl, rfl, rfl⟩ := xint_inv (show xint ixor a b = some z from hb)
  intro hn hz lsC stC H locs hL hS hX hl
  obtain ⟨vb, q, rfl, hvb, hS⟩ := hS.cons
  obtain ⟨va, q, rfl, hva, hS⟩ := hS.cons
  have hvb := hvb.i0
  have hva := hva.i0
  rw [hvb.2, hva.2]
  refine lv_ixor C.1 C.2.1 hdg (kk hn hz _ _ _ _ hL ⟨⟨lt_ixor, ?_⟩, hS⟩ hX hl)
  rw [ixor_ok]
theorem so_ladd (C : CX p s m args c cc own nL Ts V) (F : FK G E D S V Ts) (hdg : decode cc pc = .ok (.ladd, 1)) (hs : xstep G E .ladd w st ls h = some (st', ls', h')) (kk : XW p l e R s m args below meth c Q G D S V nL n0 z0 (pc + 1) st' ls' h') : XW p l e R s m args below meth c Q G D S V nL n0 z0 pc st ls h := by
  obtain ⟨b, a, r, z, rfl, hb, rfl, rfl, rfl⟩ := bin_inv (i := .ladd) hs
  obtain ⟨x, y, rfl, rfl, rfl⟩ := xlong_inv (show xlong ladd a b = some z from hb)
  intro hn hz lsC stC H locs hL hS hX hl
  obtain ⟨vb, q, rfl, hvb, hS⟩ := hS.cons
  obtain ⟨va, q, rfl, hva, hS⟩ := hS.cons
  have hvb := hvb.l2
  have hva := hva.l2
  rw [hvb.2, hva.2]
  refine lv_ladd C.1 C.2.1 hdg (kk hn hz _ _ _ _ hL ⟨⟨lt_ladd, ?_⟩, hS⟩ hX hl)
  rw [ladd_ok]
theorem so_lsub (C : CX p s m args c cc own nL Ts V) (F : FK G E D S V Ts) (hdg : decode cc pc = .ok (.lsub, 1)) (hs : xstep G E .lsub w st ls h = some (st', ls', h')) (kk : XW p l e R s m args below meth c Q G D S V nL n0 z0 (pc + 1) st' ls' h') : XW p l e R s m args below meth c Q G D S V nL n0 z0 pc st ls h := by
  obtain ⟨b, a, r, z, rfl, hb, rfl, rfl, rfl⟩ := bin_inv (i := .lsub) hs
  obtain ⟨x, y, rfl, rfl, rfl⟩ := xlong_inv (show xlong lsub a b = some z from hb)
  intro hn hz lsC stC H locs hL hS hX hl
  obtain ⟨vb, q, rfl, hvb, hS⟩ := hS.cons
  obtain ⟨va, q, rfl, hva, hS⟩ := hS.cons
  have hvb := hvb.l2
  have hva := hva.l2
  rw [hvb.2, hva.2]
  refine lv_lsub C.1 C.2.1 hdg (kk hn hz _ _ _ _ hL ⟨⟨lt_lsub, ?_⟩, hS⟩ hX hl)
  rw [lsub_ok hvb.1]
theorem so_lmul (C : CX p s m args c cc own nL Ts V) (F : FK G E D S V Ts) (hdg : decode cc pc = .ok (.lmul, 1)) (hs : xstep G E .lmul w st ls h = some (st', ls', h')) (kk : XW p l e R s m args below meth c Q G D S V nL n0 z0 (pc + 1) st' ls' h') : XW p l e R s m args below meth c Q G D S V nL n0 z0 pc st ls h := by
  obtain ⟨b, a, r, z, rfl, hb, rfl, rfl, rfl⟩ := bin_inv (i := .lmul) hs
  obtain ⟨x, y, rfl, rfl, rfl⟩ := xlong_inv (show xlong lmul a b = some z from hb)
  intro hn hz lsC stC H locs hL hS hX hl
  obtain ⟨vb, q, rfl, hvb, hS⟩ := hS.cons
  obtain ⟨va, q, rfl, hva, hS⟩ := hS.cons
  have hvb := hvb.l2
  have hva := hva.l2
  rw [hvb.2, hva.2]
  refine lv_lmul C.1 C.2.1 hdg (kk hn hz _ _ _ _ hL ⟨⟨lt_lmul, ?_⟩, hS⟩ hX hl)
  rw [lmul_ok]
theorem so_pop (C : CX p s m args c cc own nL Ts V) (F : FK G E D S V Ts) (hdg : decode cc pc = .ok (.pop, 1)) (hs : xstep G E .pop w st ls h = some (st', ls', h')) (kk : XW p l e R s m args below meth c Q G D S V nL n0 z0 (pc + 1) st' ls' h') : XW p l e R s m args below meth c Q G D S V nL n0 z0 pc st ls h := by
  replace hs : (match (generalizing := false) st with | v :: r => if xone v then some (r, ls, h) else none | [] => none) = some (st', ls', h') := hs
  split at hs
  · next v r =>
    split at hs
    · next ho =>
      cases hs
      intro hn hz lsC stC H locs hL hS hX hl
      obtain ⟨va, q, rfl, hva, hS⟩ := hS.cons
      exact lv_pop C.1 C.2.1 hdg (hva.cat1 ho) (kk hn hz _ _ _ _ hL hS hX hl)
    · cases hs
  · cases hs
theorem so_dup (C : CX p s m args c cc own nL Ts V) (F : FK G E D S V Ts) (hdg : decode cc pc = .ok (.dup, 1)) (hs : xstep G E .dup w st ls h = some (st', ls', h')) (kk : XW p l e R s m args below meth c Q G D S V nL n0 z0 (pc + 1) st' ls' h') : XW p l e R s m args below meth c Q G D S V nL n0 z0 pc st ls h := by
  replace hs : (match (generalizing := false) st with | v :: r => if xone v then some (v :: v :: r, ls, h) else none | [] => none) = some (st', ls', h') := hs
  split at hs
  · next v r =>
    split at hs
    · next ho =>
      cases hs
      intro hn hz lsC stC H locs hL hS hX hl
      obtain ⟨va, q, rfl, hva, hS⟩ := hS.cons
      exact lv_dup C.1 C.2.1 hdg (hva.cat1 ho) (kk hn hz _ _ _ _ hL ⟨hva, hva, hS⟩ hX hl)
    · cases hs
  · cases hs
theorem so_dup_x1 (C : CX p s m args c cc own nL Ts V) (F : FK G E D S V Ts) (hdg : decode cc pc = .ok (.dup_x1, 1)) (hs : xstep G E .dup_x1 w st ls h = some (st', ls', h')) (kk : XW p l e R s m args below meth c Q G D S V nL n0 z0 (pc + 1) st' ls' h') : XW p l e R s m args below meth c Q G D S V nL n0 z0 pc st ls h := by
  replace hs : (match (generalizing := false) st with | v :: u :: r => if xone v && xone u then some (v :: u :: v :: r, ls, h) else none | _ => none) = some (st', ls', h') := hs
  split at hs
  · next v u r =>
    split at hs
    · next ho =>
      cases hs
      rw [Bool.and_eq_true] at ho
      intro hn hz lsC stC H locs hL hS hX hl
      obtain ⟨va, q, rfl, hva, hS⟩ := hS.cons
      obtain ⟨vb, q, rfl, hvb, hS⟩ := hS.cons
      exact lv_dup_x1 C.1 C.2.1 hdg (hva.cat1 ho.1) (hvb.cat1 ho.2) (kk hn hz _ _ _ _ hL ⟨hva, hvb, hva, hS⟩ hX hl)
    · cases hs
  · cases hs
theorem so_dup2 (C : CX p s m args c cc own nL Ts V) (F : FK G E D S V Ts) (hdg : decode cc pc = .ok (.dup2, 1)) (hs : xstep G E .dup2 w st ls h = some (st', ls', h')) (kk : XW p l e R s m args below meth c Q G D S V nL n0 z0 (pc + 1) st' ls' h') : XW p l e R s m args below meth c Q G D S V nL n0 z0 pc st ls h := by
  replace hs : (match (generalizing := false) st with
    | v :: r => if xwide v then some (v :: v :: r, ls, h) else (match (generalizing := false) r with | u :: q => if xone v && xone u then some (v :: u :: v :: u :: q, ls, h) else none | [] => none)
    | [] => none) = some (st', ls', h') := hs
  split at hs
  · next v r =>
    split at hs
    · next ho =>
      cases hs
      intro hn hz lsC stC H locs hL hS hX hl
      obtain ⟨va, q, rfl, hva, hS⟩ := hS.cons
      exact lv_dup2_2 C.1 C.2.1 hdg (hva.cat2 ho) (kk hn hz _ _ _ _ hL ⟨hva, hva, hS⟩ hX hl)
    · split at hs
      · next u q =>
        split at hs
        · next ho =>
          cases hs
          rw [Bool.and_eq_true] at ho
          intro hn hz lsC stC H locs hL hS hX hl
          obtain ⟨va, q, rfl, hva, hS⟩ := hS.cons
          obtain ⟨vb, q, rfl, hvb, hS⟩ := hS.cons
          exact lv_dup2_11 C.1 C.2.1 hdg (hva.cat1 ho.1) (hvb.cat1 ho.2) (kk hn hz _ _ _ _ hL ⟨hva, hvb, hva, hvb, hS⟩ hX hl)
        · cases hs
      · cases hs
  · cases hs
theorem so_dup2_x1 (C : CX p s m args c cc own nL Ts V) (F : FK G E D S V Ts) (hdg : decode cc pc = .ok (.dup2_x1, 1)) (hs : xstep G E .dup2_x1 w st ls h = some (st', ls', h')) (kk : XW p l e R s m args below meth c Q G D S V nL n0 z0 (pc + 1) st' ls' h') : XW p l e R s m args below meth c Q G D S V nL n0 z0 pc st ls h := by
  replace hs : (match (generalizing := false) st with | v :: u :: r => if xwide v && xone u then some (v :: u :: v :: r, ls, h) else none | _ => none) = some (st', ls', h') := hs
  split at hs
  · next v u r =>
    split at hs
    · next ho =>
      cases hs
      rw [Bool.and_eq_true] at ho
      intro hn hz lsC stC H locs hL hS hX hl
      obtain ⟨va, q, rfl, hva, hS⟩ := hS.cons
      obtain ⟨vb, q, rfl, hvb, hS⟩ := hS.cons
      exact lv_dup2_x1_2 C.1 C.2.1 hdg (hva.cat2 ho.1) (hvb.cat1 ho.2) (kk hn hz _ _ _ _ hL ⟨hva, hvb, hva, hS⟩ hX hl)
    · cases hs
  · cases hs
theorem so_i2l (C : CX p s m args c cc own nL Ts V) (F : FK G E D S V Ts) (hdg : decode cc pc = .ok (.i2l, 1)) (hs : xstep G E .i2l w st ls h = some (st', ls', h')) (kk : XW p l e R s m args below meth c Q G D S V nL n0 z0 (pc + 1) st' ls' h') : XW p l e R s m args below meth c Q G D S V nL n0 z0 pc st ls h := by
  obtain ⟨a, r, z, rfl, hb, rfl, rfl, rfl⟩ := un_inv (i := .i2l) hs
  obtain ⟨t, n⟩ := a
  have hb : (match (generalizing := false) t with | 0 => some (2, i2l n) | 5 => some (6, n) | _ => none) = some z := hb
  split at hb
  · cases hb
    intro hn hz lsC stC H locs hL hS hX hl
    obtain ⟨va, q, rfl, hva, hS2⟩ := hS.cons
    have hva := hva.i0
    rw [hva.2]
    exact lv_i2l C.1 C.2.1 hdg rfl (kk hn hz _ _ _ _ hL ⟨⟨lt_i2l hva.1, by rw [i2l_ok hva.1]⟩, hS2⟩ hX hl)
  · cases hb
    intro hn hz lsC stC H locs hL hS hX hl
    obtain ⟨va, q, rfl, hva, hS2⟩ := hS.cons
    obtain ⟨x, rfl, hx⟩ := hva
    refine lv_i2l C.1 C.2.1 hdg rfl (kk hn hz _ _ _ _ hL ⟨⟨_, rfl, ?_, ?_, ?_⟩, hS2⟩ hX hl)
    · rw [Int32.toInt_toInt64]; exact hx
    · rw [Int32.toInt_toInt64]; exact Int32.le_toInt x
    · rw [Int32.toInt_toInt64]; exact Int32.toInt_lt x
  · cases hb
theorem so_l2i (C : CX p s m args c cc own nL Ts V) (F : FK G E D S V Ts) (hdg : decode cc pc = .ok (.l2i, 1)) (hs : xstep G E .l2i w st ls h = some (st', ls', h')) (kk : XW p l e R s m args below meth c Q G D S V nL n0 z0 (pc + 1) st' ls' h') : XW p l e R s m args below meth c Q G D S V nL n0 z0 pc st ls h := by
  obtain ⟨a, r, z, rfl, hb, rfl, rfl, rfl⟩ := un_inv (i := .l2i) hs
  obtain ⟨t, n⟩ := a
  have hb : (match (generalizing := false) t with | 2 => some (0, l2i n) | 6 => some (5, n) | _ => none) = some z := hb
  split at hb
  · cases hb
    intro hn hz lsC stC H locs hL hS hX hl
    obtain ⟨va, q, rfl, hva, hS2⟩ := hS.cons
    have hva := hva.l2
    rw [hva.2]
    exact lv_l2i C.1 C.2.1 hdg rfl (kk hn hz _ _ _ _ hL ⟨⟨u32_lt, by rw [l2i_ok hva.1]⟩, hS2⟩ hX hl)
  · cases hb
    intro hn hz lsC stC H locs hL hS hX hl
    obtain ⟨va, q, rfl, hva, hS2⟩ := hS.cons
    obtain ⟨x, rfl, hx, h1, h2⟩ := hva
    refine lv_l2i C.1 C.2.1 hdg rfl (kk hn hz _ _ _ _ hL ⟨⟨_, rfl, ?_⟩, hS2⟩ hX hl)
    rw [Int64.toInt_toInt32, show (2 ^ 32 : Nat) = 4294967296 from rfl, bm32]
    try dsimp only at hx
    split <;> omega
  · cases hb
end BIN
