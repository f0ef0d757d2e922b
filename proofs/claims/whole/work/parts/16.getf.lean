/-! FIELDS READ -/
section GETF
variable {p : Program} {l : Launch} {e : Env} {R : Room} {s : State} {m : MethodId} {args : Array Value} {below : List Frame} {meth : Method} {c : Code} {Q : State → Prop} {G : xG} {E : List (Nat × Nat × Nat)} {D : xD} {S : xS} {V : State} {nL n0 z0 : Nat} {cc : ByteArray} {own : String} {Ts : List Jvm.Cond} {pc : Nat} {w : List Nat} {st ls st' ls' : List xV} {h h' : xH}
theorem getf_inv {index k ci : Nat} (hs : xstep G E (.getfield index) (k :: ci :: w) st ls h = some (st', ls', h')) : ∃ o r cl, st = o :: r ∧ xcell G h o = some cl ∧ cl.1.1 % 2 = 0 ∧ cl.1.1 / 2 = ci ∧ st' = cget cl k :: r ∧ ls' = ls ∧ h' = h := by
  replace hs : (match (generalizing := false) st with
    | o :: r => (match xcell G h o with | some c => if Nat.beq c.1.1 (2 * ci) then some (cget c k :: r, ls, h) else none | none => none)
    | [] => none) = some (st', ls', h') := by
    cases st with
    | nil => exact hs
    | cons o r => exact hs
  split at hs
  · next o r =>
    split at hs
    · next cl hc =>
      split at hs
      · next hb =>
        have hb := beq_iff.mp hb
        cases hs
        exact ⟨o, r, cl, rfl, hc, by omega, by omega, rfl, rfl, rfl⟩
      · cases hs
    · cases hs
  · cases hs
theorem getf_core (C : CX p s m args c cc own nL Ts V) (F : FK G E D S V Ts) {K : xK} {k ci : Nat} (hK : xg G.2.1 ci = some K) (hk : k < K.2.2.1) {o : xV} {r : List xV} {cl : xC} (hc : xcell G h o = some cl) (h2 : cl.1.1 % 2 = 0) (h3 : cl.1.1 / 2 = ci) {stC : List Value} {H : Heap} (hS : RVs S (o :: r) stC) (hX : XH G D S V h H) :
    ∃ (q : Nat) (cell : Cell) (v : Value) (rest : List Value) (cf fi : Nat) (kf : Class) (f : Field), stC = .ref q :: rest ∧ H[q]? = some cell ∧ cell.vm ≠ .unknown ∧ s.fieldFound? (K.2.1 k).1 (K.2.1 k).2.1 (K.2.1 k).2.2.1 = some (cf, kf, fi, f) ∧ f.isStatic = false ∧ cell.slots[f.slot]? = some v ∧ RVs S (cget cl k :: r) (v :: rest) := by
  obtain ⟨va, q2, rfl, hva, hS2⟩ := hS.cons
  obtain ⟨q, cell, rfl, hH, hR⟩ := hX.cell F.2.1 hc hva
  obtain ⟨hcl, hvm, -, hsl⟩ := hR.2 h2 K (by rw [h3]; exact hK)
  obtain ⟨v, hv, hr⟩ := hsl k hk
  obtain ⟨hU, hin, -, -⟩ := F.2.2.1 ci K hK
  have hU := u_Kn_moved C.2.2.2.2.2 hU
  obtain ⟨hSl, hfc, kC, hkC, hkind⟩ := hU
  obtain ⟨cf, kf, fi, f, hi, hsl2⟩ := hSl k hk
  refine ⟨q, cell, v, q2, cf, fi, kf, f, rfl, hH, hvm, hi, (u_facts hfc hkC (u_lays C.2.2.2.2.1 hin hk) hi).1, ?_, ⟨hr, hS2⟩⟩
  rw [hsl2, ← h3]; exact hv
theorem so_getf (C : CX p s m args c cc own nL Ts V) (F : FK G E D S V Ts) {K : xK} {k ci index : Nat} {ref : String} (hK : xg G.2.1 ci = some K) (hk : k < K.2.2.1) (hlink : (Cond.fieldLink own index ref (K.2.1 k).2.1 (K.2.1 k).2.2.1).before args s = true) (hsame : ∀ x, s.fieldFound? (K.2.1 k).1 (K.2.1 k).2.1 (K.2.1 k).2.2.1 = some x → s.fieldFound? ref (K.2.1 k).2.1 (K.2.1 k).2.2.1 = some x) (hdg : decode cc pc = .ok (.getfield index, 3)) (hs : xstep G E (.getfield index) (k :: ci :: w) st ls h = some (st', ls', h')) (kk : XW p l e R s m args below meth c Q G D S V nL n0 z0 (pc + 3) st' ls' h') : XW p l e R s m args below meth c Q G D S V nL n0 z0 pc st ls h := by
  obtain ⟨o, r, cl, rfl, hc, h2, h3, rfl, rfl, rfl⟩ := getf_inv hs
  intro hn hz lsC stC H locs hL hS hX hl
  obtain ⟨q, cell, v, rest, cf, fi, kf, f, rfl, g1, g2, g3, g4, g5, g6⟩ := getf_core C F hK hk hc h2 h3 hS hX
  exact W.getf C.1 C.2.1 C.2.2.2.1 hlink (hsame _ g3) g4 g1 g2 g5 rfl rfl hdg (kk hn hz _ _ _ _ hL g6 hX hl)
end GETF
