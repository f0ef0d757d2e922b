/-! ONE VALUE CHANGED -/
section MISC
variable {p : Program} {l : Launch} {e : Env} {R : Room} {s : State} {m : MethodId} {args : Array Value} {below : List Frame} {meth : Method} {c : Code} {Q : State → Prop} {G : xG} {E : List (Nat × Nat × Nat)} {D : xD} {S : xS} {V : State} {nL n0 z0 : Nat} {cc : ByteArray} {own : String} {Ts : List Jvm.Cond} {pc : Nat} {w : List Nat} {st ls st' ls' : List xV} {h h' : xH}
theorem so_ineg (C : CX p s m args c cc own nL Ts V) (F : FK G E D S V Ts) (hdg : decode cc pc = .ok (.ineg, 1)) (hs : xstep G E .ineg w st ls h = some (st', ls', h')) (kk : XW p l e R s m args below meth c Q G D S V nL n0 z0 (pc + 1) st' ls' h') : XW p l e R s m args below meth c Q G D S V nL n0 z0 pc st ls h := by
  obtain ⟨a, r, z, rfl, hb, rfl, rfl, rfl⟩ := un_inv (i := .ineg) hs
  obtain ⟨t, n⟩ := a
  replace hb : (match (generalizing := false) t with | 0 => some (0, ineg n) | _ => none) = some z := hb
  split at hb
  · cases hb
    intro hn hz lsC stC H locs hL hS hX hl
    obtain ⟨va, q, rfl, hva, hS2⟩ := hS.cons
    have hva := hva.i0
    rw [hva.2]
    exact lv_ineg C.1 C.2.1 hdg (kk hn hz _ _ _ _ hL ⟨⟨lt_ineg, by rw [ineg_ok hva.1]⟩, hS2⟩ hX hl)
  · cases hb
theorem so_iinc (C : CX p s m args c cc own nL Ts V) (F : FK G E D S V Ts) {k q0 : Nat} {n : Int} (hk : k < nL) (hq : q0 < 4294967296 ∧ Int32.ofInt n = q32 q0) (hdg : decode cc pc = .ok (.iinc k n, 3)) (hs : xstep G E (.iinc k n) [q0] st ls h = some (st', ls', h')) (kk : XW p l e R s m args below meth c Q G D S V nL n0 z0 (pc + 3) st' ls' h') : XW p l e R s m args below meth c Q G D S V nL n0 z0 pc st ls h := by
  replace hs : (match (generalizing := false) xadd E (xgd (7, 0) ls k) (0, q0) with | some v => xforce v.2 fun z => some (st, xst ls k (v.1, z), h) | none => none) = some (st', ls', h') := hs
  split at hs
  · next v hv =>
    rw [xforce_eq] at hs
    cases hs
    intro hn hz lsC stC H locs hL hS hX hl
    have hI : xisI (xgd (7, 0) ls k).1 = true := by
      generalize xgd (7, 0) ls k = a at hv
      obtain ⟨t, z⟩ := a
      unfold xadd at hv
      dsimp only at hv
      split at hv <;> first | rfl | cases hv
    obtain ⟨u, hu, hr⟩ := hL.2.2 _ _ rfl (kn_I hI).1
    obtain ⟨x, y, rfl, hy, hr2, hI2⟩ := xadd_spec F.1 hv hr (v := .int (q32 q0)) ⟨hq.1, rfl⟩
    have hy : q32 q0 = y := Value.int.inj hy
    obtain ⟨i, hi⟩ := List.getElem?_of_mem (lv_all_mem.mpr hu)
    exact lv_iinc C.1 C.2.1 hdg (lv_all_has hL.1 hL.2.1) hi (by rw [hq.2, hy]) hk rfl fun ls1 h1 => kk hn hz _ _ _ _ (hL.store1 hr2 (kn_I hI2).2 h1) hS hX hl
  · cases hs
end MISC
