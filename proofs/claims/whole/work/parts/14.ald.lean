/-! ARRAYS READ -/
section ALD
variable {p : Program} {l : Launch} {e : Env} {R : Room} {s : State} {m : MethodId} {args : Array Value} {below : List Frame} {meth : Method} {c : Code} {Q : State → Prop} {G : xG} {E : List (Nat × Nat × Nat)} {D : xD} {S : xS} {V : State} {nL n0 z0 : Nat} {cc : ByteArray} {own : String} {Ts : List Jvm.Cond} {pc t : Nat} {w : List Nat} {st ls st' ls' : List xV} {h h' : xH}
theorem xidx_spec {cl : xC} {i : xV} {k : Nat} {v : Value} (hk : xidx cl i = some k) (hv : RV S i v) : k < cl.1.2.1 ∧ ∃ j : Int32, v = .int j ∧ ¬ j < 0 ∧ j.toNatClampNeg = k := by
  obtain ⟨ti, n⟩ := i
  unfold xidx at hk
  dsimp only at hk
  split at hk
  · split at hk
    · next hc =>
      rw [Bool.and_eq_true] at hc
      have h1 := ble_iff.mp hc.1
      have h2 := blt_iff.mp hc.2
      have hk := Option.some.inj hk
      subst hk
      have hv := hv.i0
      refine ⟨h2, q32 n, hv.2, ?_, q32_clamp h1 hv.1⟩
      rw [← q32_zero, q32_lt hv.1 (by decide)]
      omega
    · cases hk
  · cases hk
theorem ald_core (C : CX p s m args c cc own nL Ts V) (F : FK G E D S V Ts) {i a : xV} {r : List xV} {cl : xC} {k : Nat} (hc : xcell G h a = some cl) (ht : cl.1.1 % 2 = 1) (hi : xidx cl i = some k) {stC : List Value} {H : Heap} (hS : RVs S (i :: a :: r) stC) (hX : XH G D S V h H) :
    ∃ (q : Nat) (cell : Cell) (j : Int32) (v : Value) (rest : List Value), stC = .int j :: .ref q :: rest ∧ H[q]? = some cell ∧ cl.1.1 / 2 < G.2.2.1.length ∧ s.isArrayOf cell (xat G (cl.1.1 / 2)) ∧ cell.vm ≠ .unknown ∧ ¬ (j < 0 ∨ cell.slots.size ≤ j.toNatClampNeg) ∧ cell.slots[j.toNatClampNeg]? = some v ∧ RVs S (cget cl k :: r) (v :: rest) := by
  obtain ⟨vi, q1, rfl, hvi, hS1⟩ := hS.cons
  obtain ⟨va, q2, rfl, hva, hS2⟩ := hS1.cons
  obtain ⟨hlt, j, rfl, hj0, hj⟩ := xidx_spec hi hvi
  obtain ⟨q, cell, rfl, hH, hR⟩ := hX.cell F.2.1 hc hva
  obtain ⟨h0, h1, h2, h3, h4, h5⟩ := hR.1 ht
  obtain ⟨v, hv, hr⟩ := h5 k hlt
  refine ⟨q, cell, j, v, q2, rfl, hH, h0, State.isArrayOf_alike C.2.2.2.2.2 h1, h2, ?_, by rw [hj]; exact hv, ⟨hr, hS2⟩⟩
  rintro (z | z)
  · exact hj0 z
  · rw [hj, h3] at z; omega
theorem ald_inv (hs : xald G t st ls h = some (st', ls', h')) : ∃ i a r cl k, st = i :: a :: r ∧ xcell G h a = some cl ∧ cl.1.1 % 2 = 1 ∧ cl.1.1 / 2 = t ∧ xidx cl i = some k ∧ st' = cget cl k :: r ∧ ls' = ls ∧ h' = h := by
  unfold xald at hs
  split at hs
  · next i a r =>
    split at hs
    · next cl hc =>
      split at hs
      · next hb =>
        have hb := beq_iff.mp hb
        split at hs
        · next k hk =>
          cases hs
          exact ⟨i, a, r, cl, k, rfl, hc, by omega, by omega, hk, rfl, rfl, rfl⟩
        · cases hs
      · cases hs
    · cases hs
  · cases hs
theorem so_iald (C : CX p s m args c cc own nL Ts V) (F : FK G E D S V Ts) (hA : xat G 0 = .int) (hdg : decode cc pc = .ok (.iaload, 1)) (hs : xald G 0 st ls h = some (st', ls', h')) (kk : XW p l e R s m args below meth c Q G D S V nL n0 z0 (pc + 1) st' ls' h') : XW p l e R s m args below meth c Q G D S V nL n0 z0 pc st ls h := by
  obtain ⟨i, a, r, cl, k, rfl, hc, ht, ht2, hi, rfl, rfl, rfl⟩ := ald_inv hs
  intro hn hz lsC stC H locs hL hS hX hl
  obtain ⟨q, cell, j, v, rest, rfl, h1, h0, h2, h3, h4, h5, h6⟩ := ald_core C F hc ht hi hS hX
  rw [ht2, hA] at h2
  exact W.iald C.1 C.2.1 h1 h2 h3 h4 h5 rfl rfl hdg (kk hn hz _ _ _ _ hL h6 hX hl)
theorem so_lald (C : CX p s m args c cc own nL Ts V) (F : FK G E D S V Ts) (hA : xat G 1 = .long) (hdg : decode cc pc = .ok (.laload, 1)) (hs : xald G 1 st ls h = some (st', ls', h')) (kk : XW p l e R s m args below meth c Q G D S V nL n0 z0 (pc + 1) st' ls' h') : XW p l e R s m args below meth c Q G D S V nL n0 z0 pc st ls h := by
  obtain ⟨i, a, r, cl, k, rfl, hc, ht, ht2, hi, rfl, rfl, rfl⟩ := ald_inv hs
  intro hn hz lsC stC H locs hL hS hX hl
  obtain ⟨q, cell, j, v, rest, rfl, h1, h0, h2, h3, h4, h5, h6⟩ := ald_core C F hc ht hi hS hX
  rw [ht2, hA] at h2
  exact W.lald C.1 C.2.1 h1 h2 h3 h4 h5 rfl rfl hdg (kk hn hz _ _ _ _ hL h6 hX hl)
theorem so_zald (C : CX p s m args c cc own nL Ts V) (F : FK G E D S V Ts) (hA : xat G 2 = .boolean) (hdg : decode cc pc = .ok (.baload, 1)) (hs : xald G 2 st ls h = some (st', ls', h')) (kk : XW p l e R s m args below meth c Q G D S V nL n0 z0 (pc + 1) st' ls' h') : XW p l e R s m args below meth c Q G D S V nL n0 z0 pc st ls h := by
  obtain ⟨i, a, r, cl, k, rfl, hc, ht, ht2, hi, rfl, rfl, rfl⟩ := ald_inv hs
  intro hn hz lsC stC H locs hL hS hX hl
  obtain ⟨q, cell, j, v, rest, rfl, h1, h0, h2, h3, h4, h5, h6⟩ := ald_core C F hc ht hi hS hX
  rw [ht2, hA] at h2
  exact W.zald C.1 C.2.1 h1 h2 h3 h4 h5 rfl rfl hdg (kk hn hz _ _ _ _ hL h6 hX hl)
theorem so_bald (C : CX p s m args c cc own nL Ts V) (F : FK G E D S V Ts) (hA : xat G 3 = .byte) (hdg : decode cc pc = .ok (.baload, 1)) (hs : xald G 3 st ls h = some (st', ls', h')) (kk : XW p l e R s m args below meth c Q G D S V nL n0 z0 (pc + 1) st' ls' h') : XW p l e R s m args below meth c Q G D S V nL n0 z0 pc st ls h := by
  obtain ⟨i, a, r, cl, k, rfl, hc, ht, ht2, hi, rfl, rfl, rfl⟩ := ald_inv hs
  intro hn hz lsC stC H locs hL hS hX hl
  obtain ⟨q, cell, j, v, rest, rfl, h1, h0, h2, h3, h4, h5, h6⟩ := ald_core C F hc ht hi hS hX
  rw [ht2, hA] at h2
  exact W.bald C.1 C.2.1 h1 h2 h3 h4 h5 rfl rfl hdg (kk hn hz _ _ _ _ hL h6 hX hl)
theorem so_cald (C : CX p s m args c cc own nL Ts V) (F : FK G E D S V Ts) (hA : xat G 4 = .char) (hdg : decode cc pc = .ok (.caload, 1)) (hs : xald G 4 st ls h = some (st', ls', h')) (kk : XW p l e R s m args below meth c Q G D S V nL n0 z0 (pc + 1) st' ls' h') : XW p l e R s m args below meth c Q G D S V nL n0 z0 pc st ls h := by
  obtain ⟨i, a, r, cl, k, rfl, hc, ht, ht2, hi, rfl, rfl, rfl⟩ := ald_inv hs
  intro hn hz lsC stC H locs hL hS hX hl
  obtain ⟨q, cell, j, v, rest, rfl, h1, h0, h2, h3, h4, h5, h6⟩ := ald_core C F hc ht hi hS hX
  rw [ht2, hA] at h2
  exact W.cald C.1 C.2.1 h1 h2 h3 h4 h5 rfl rfl hdg (kk hn hz _ _ _ _ hL h6 hX hl)
theorem so_dald (C : CX p s m args c cc own nL Ts V) (F : FK G E D S V Ts) (hA : xat G 5 = .double) (hdg : decode cc pc = .ok (.daload, 1)) (hs : xald G 5 st ls h = some (st', ls', h')) (kk : XW p l e R s m args below meth c Q G D S V nL n0 z0 (pc + 1) st' ls' h') : XW p l e R s m args below meth c Q G D S V nL n0 z0 pc st ls h := by
  obtain ⟨i, a, r, cl, k, rfl, hc, ht, ht2, hi, rfl, rfl, rfl⟩ := ald_inv hs
  intro hn hz lsC stC H locs hL hS hX hl
  obtain ⟨q, cell, j, v, rest, rfl, h1, h0, h2, h3, h4, h5, h6⟩ := ald_core C F hc ht hi hS hX
  rw [ht2, hA] at h2
  exact W.dald C.1 C.2.1 h1 h2 h3 h4 h5 rfl rfl hdg (kk hn hz _ _ _ _ hL h6 hX hl)
theorem so_aald (C : CX p s m args c cc own nL Ts V) (F : FK G E D S V Ts) (hA : ∀ t, 6 ≤ t → t < G.2.2.1.length → (xat G t).isReference = true) (hdg : decode cc pc = .ok (.aaload, 1)) (hs : xaald G st ls h = some (st', ls', h')) (kk : XW p l e R s m args below meth c Q G D S V nL n0 z0 (pc + 1) st' ls' h') : XW p l e R s m args below meth c Q G D S V nL n0 z0 pc st ls h := by
  unfold xaald at hs
  split at hs
  · next i a r =>
    split at hs
    · next cl hc =>
      split at hs
      · next hb =>
        rw [Bool.and_eq_true] at hb
        have hb1 := ble_iff.mp hb.1
        have hb2 := beq_iff.mp hb.2
        split at hs
        · next k hk =>
          cases hs
          intro hn hz lsC stC H locs hL hS hX hl
          obtain ⟨q, cell, j, v, rest, rfl, h1, h0, h2, h3, h4, h5, h6⟩ := ald_core C F hc hb2 hk hS hX
          exact W.aald C.1 C.2.1 h1 h2 (hA _ (by omega) h0) h3 h4 h5 rfl rfl hdg (kk hn hz _ _ _ _ hL h6 hX hl)
        · cases hs
      · cases hs
    · cases hs
  · cases hs
theorem so_alen (C : CX p s m args c cc own nL Ts V) (F : FK G E D S V Ts) (hdg : decode cc pc = .ok (.arraylength, 1)) (hs : xstep G E .arraylength w st ls h = some (st', ls', h')) (kk : XW p l e R s m args below meth c Q G D S V nL n0 z0 (pc + 1) st' ls' h') : XW p l e R s m args below meth c Q G D S V nL n0 z0 pc st ls h := by
  replace hs : (match (generalizing := false) st with
    | a :: r => (match xcell G h a with | some c => if Nat.beq (c.1.1 % 2) 1 then some ((0, c.1.2.1 + 2147483648) :: r, ls, h) else none | none => none)
    | [] => none) = some (st', ls', h') := hs
  split at hs
  · next a r =>
    split at hs
    · next cl hc =>
      split at hs
      · next hb =>
        have hb := beq_iff.mp hb
        cases hs
        intro hn hz lsC stC H locs hL hS hX hl
        obtain ⟨va, q2, rfl, hva, hS2⟩ := hS.cons
        obtain ⟨q, cell, rfl, hH, hR⟩ := hX.cell F.2.1 hc hva
        obtain ⟨-, h1, h2, h3, h4, h5⟩ := hR.1 hb
        refine W.alen (n := q32 (cl.1.2.1 + 2147483648)) C.1 C.2.1 hH (State.isArrayOf_alike C.2.2.2.2.2 h1) ?_ rfl rfl hdg (kk hn hz _ _ _ _ hL ⟨⟨by omega, rfl⟩, hS2⟩ hX hl)
        rw [h3]
        exact ofNat_cong (by omega)
      · cases hs
    · cases hs
  · cases hs
end ALD
