/-! ARRAYS MADE -/
section NEWA
variable {p : Program} {l : Launch} {e : Env} {R : Room} {s : State} {m : MethodId} {args : Array Value} {below : List Frame} {meth : Method} {c : Code} {Q : State → Prop} {G : xG} {E : List (Nat × Nat × Nat)} {D : xD} {S : xS} {V : State} {nL n0 z0 : Nat} {cc : ByteArray} {own : String} {Ts : List Jvm.Cond} {pc : Nat} {w : List Nat} {st ls st' ls' : List xV} {h h' : xH}
theorem xg_xgd {α : Type} (d : α) : ∀ (l : List α) (n : Nat) (a : α), xg l n = some a → xgd d l n = a ∧ n < l.length
  | [], n, a, h => by rw [xg_nil] at h; cases h
  | b :: l, 0, a, h => by
    rw [xg_zero] at h
    cases h
    exact ⟨rfl, Nat.zero_lt_succ _⟩
  | b :: l, n + 1, a, h => by
    rw [xg_succ] at h
    obtain ⟨h1, h2⟩ := xg_xgd d l n a h
    exact ⟨h1, Nat.succ_lt_succ h2⟩
theorem NC.arr (C : CX p s m args c cc own nL Ts V) (F : FK G E D S V Ts) {t N : Nat} {ty : FieldType} {a0 a : xV} {v : Value} {cA : ClassId} (ht : xg G.2.2.1 t = some (ty, a0)) (hcA : s.vm.findClass ("[" ++ ty.toString) = some cA) (hN : N < 2147483648) (hr : RV S a v) :
    NC G D S V ((2 * t + 1, N, a), []) { cls := cA, slots := Array.replicate N v, vm := .none } := by
  obtain ⟨hA, hf⟩ := F.2.2.2 t ty a0 ht
  obtain ⟨hx, hlt⟩ := xg_xgd (.int, (7, 0)) _ _ _ ht
  have hcA2 : cA = D.2.2 t := by
    rw [Vm.Alike.findClass C.2.2.2.2.2, hf] at hcA
    exact (Option.some.inj hcA).symm
  subst hcA2
  have e : (2 * t + 1) / 2 = t := by omega
  refine ⟨⟨fun _ => ⟨?_, ?_, fun q => (by cases q), ?_, hN, fun j hj => ⟨v, ?_, hr⟩⟩, fun q => ?_⟩, rfl, fun _ => ?_⟩
  · show (2 * t + 1) / 2 < _
    rw [e]; exact hlt
  · show V.isArrayOf _ (xat G ((2 * t + 1) / 2))
    rw [e, arrV_new]
    unfold xat
    rw [hx]
    exact hA _ _
  · show (Array.replicate N v).size = N
    simp
  · have hj : j < N := hj
    show (Array.replicate N v)[j]? = some v
    simp [hj]
  · have q : (2 * t + 1) % 2 = 0 := q
    omega
  · show _ = D.2.2 ((2 * t + 1) / 2)
    rw [e]
theorem newa_inv {at0 : ArrayType} {t : Nat} (hs : xstep G E (.newarray at0) (t :: w) st ls h = some (st', ls', h')) : ∃ n r, st = (0, n) :: r ∧ 2147483648 ≤ n ∧ n < 2147583648 ∧ st' = (1, 2 * h.1 + 1) :: r ∧ ls' = ls ∧ h' = hnew h (n - 2147483648) ((2 * t + 1, n - 2147483648, xty G t), []) := by
  replace hs : (match (generalizing := false) st with
    | n :: r => (match n.1 with | 0 => if Nat.ble 2147483648 n.2 && Nat.blt n.2 2147583648 then xforce (n.2 - 2147483648) (fun m => some ((1, 2 * h.1 + 1) :: r, ls, hnew h m ((2 * t + 1, m, xty G t), []))) else none | _ => none)
    | [] => none) = some (st', ls', h') := by
    cases st with
    | nil => exact hs
    | cons n r => exact hs
  split at hs
  · next n r =>
    obtain ⟨tn, n⟩ := n
    try dsimp only at hs
    split at hs
    · split at hs
      · next hc =>
        rw [Bool.and_eq_true] at hc
        rw [xforce_eq] at hs
        cases hs
        exact ⟨n, r, rfl, ble_iff.mp hc.1, blt_iff.mp hc.2, rfl, rfl, rfl⟩
      · cases hs
    · cases hs
  · cases hs
theorem so_newa (C : CX p s m args c cc own nL Ts V) (F : FK G E D S V Ts) {at0 : ArrayType} {t : Nat} {a0 : xV} (ht : xg G.2.2.1 t = some (newarray.typeOf at0, a0)) (hdef : RV S (xty G t) (defaultValue (newarray.typeOf at0))) (hcb : componentBytes (newarray.typeOf at0) ≤ 8) (harr : (Cond.arrayClass (newarray.typeOf at0)).before args s = true)
    (hdg : decode cc pc = .ok (.newarray at0, 2)) (hs : xstep G E (.newarray at0) (t :: w) st ls h = some (st', ls', h')) (hcells : h'.1 - n0 ≤ R.cells) (hslots : h'.2.1 - z0 ≤ R.slots) (kk : XW p l e R s m args below meth c Q G D S V nL n0 z0 (pc + 2) st' ls' h') : XW p l e R s m args below meth c Q G D S V nL n0 z0 pc st ls h := by
  obtain ⟨n, r, q1, hn1, hn2, q4, q5, q6⟩ := newa_inv hs
  subst q1; subst q4; subst q5
  rw [q6] at hcells hslots kk
  intro hn hz lsC stC H locs hL hS hX hl
  obtain ⟨va, q, rfl, hva, hS2⟩ := hS.cons
  have hva := hva.i0
  rw [hva.2]
  have e1 : (hnew h (n - 2147483648) ((2 * t + 1, n - 2147483648, xty G t), [])).1 = h.1 + 1 := by rw [hnew_eq]
  have e2 : (hnew h (n - 2147483648) ((2 * t + 1, n - 2147483648, xty G t), [])).2.1 = h.2.1 + (n - 2147483648) := by rw [hnew_eq]
  have hsz : H.size = S.2.1 + h.1 := hX.1
  have hcl := q32_clamp hn1 hva.1
  have hneg : ¬ q32 n < 0 := by rw [← q32_zero, q32_lt hva.1 (by decide)]; omega
  have hby : (n - 2147483648) * componentBytes (newarray.typeOf at0) ≤ 536870912 := Nat.le_trans (Nat.mul_le_mul_left _ hcb) (by omega)
  refine W.newa C.1 C.2.1 harr rfl hdg rfl hneg (by rw [hcl]; exact hby) (by omega) (by rw [hcl]; omega) fun cA kA comp g1 g2 g3 => ?_
  rw [hcl]
  have hX' := hX.new (n := n - 2147483648) (NC.arr C F ht g1 (N := n - 2147483648) (by omega) hdef)
  have r := kk (by omega) (by omega) lsC (.ref H.size :: q) _ locs hL ⟨by rw [hsz]; exact (xref_new _ _ _).symm, hS2⟩ hX' hl
  rw [e1, e2, show h.1 + 1 - n0 = h.1 - n0 + 1 by omega, show h.2.1 + (n - 2147483648) - z0 = h.2.1 - z0 + (n - 2147483648) by omega] at r
  exact r
end NEWA
