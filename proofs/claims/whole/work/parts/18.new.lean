/-! WHAT IS MADE -/
section NEW
variable {p : Program} {l : Launch} {e : Env} {R : Room} {s : State} {m : MethodId} {args : Array Value} {below : List Frame} {meth : Method} {c : Code} {Q : State → Prop} {G : xG} {E : List (Nat × Nat × Nat)} {D : xD} {S : xS} {V : State} {nL n0 z0 : Nat} {cc : ByteArray} {own : String} {Ts : List Jvm.Cond} {pc : Nat} {w : List Nat} {st ls st' ls' : List xV} {h h' : xH}
theorem XH.made {H H' : Heap} (X : XH G D S V h H) {n : Nat} {cl : xC} {cell : Cell} (hN : NC G D S V cl cell) (h1 : H'[H.size]? = some cell) (h2 : H'.size = H.size + 1) (h3 : ∀ q, q < H.size → H'[q]? = H[q]?) : XH G D S V (hnew h n cl) H' := by
  have hs : H.size = S.2.1 + h.1 := X.1
  have hn : (hnew h n cl).1 = h.1 + 1 := by rw [hnew_eq]
  refine ⟨by rw [h2, hs, hn]; omega, fun j hj => ?_, fun q hq => ?_⟩
  · by_cases e : j = h.1
    · subst e
      exact ⟨cl, cell, hnew_self _ _ _, by rw [← hs]; exact h1, hN⟩
    · have hj' : j < h.1 := by omega
      obtain ⟨c', cell', a1, a2, a3⟩ := X.2.1 j hj'
      exact ⟨c', cell', hnew_ne _ e a1, by rw [h3 _ (by omega)]; exact a2, a3⟩
  · rw [h3 _ (by omega)]; exact X.2.2 q hq
theorem new_inv {index ci : Nat} (hs : xstep G E (.new index) (ci :: w) st ls h = some (st', ls', h')) : ∃ K, xg G.2.1 ci = some K ∧ st' = (1, 2 * h.1 + 1) :: st ∧ ls' = ls ∧ h' = hnew h K.2.2.2.2 ((2 * ci, K.2.2.1, (7, 0)), K.2.2.2.1) := by
  replace hs : (match (generalizing := false) xg G.2.1 ci with | some k => some ((1, 2 * h.1 + 1) :: st, ls, hnew h k.2.2.2.2 ((2 * ci, k.2.2.1, (7, 0)), k.2.2.2.1)) | none => none) = some (st', ls', h') := hs
  split at hs
  · next K hK =>
    cases hs
    exact ⟨K, hK, rfl, rfl, rfl⟩
  · cases hs
theorem xref_new (b : Nat) (oa : Nat → Nat) (k : Nat) : xref b oa (2 * k + 1) = .ref (b + k) := by
  unfold xref
  rw [if_neg (by omega), if_pos (by omega), show (2 * k + 1) / 2 = k by omega]
theorem so_new (C : CX p s m args c cc own nL Ts V) (F : FK G E D S V Ts) {K : xK} {ci index : Nat} (hK : xg G.2.1 ci = some K) (hclink : (Cond.classLink own index K.1).before args s = true) (hins : (Cond.instantiable K.1 K.2.2.2.2).before args s = true) (hinit : (Cond.initialized K.1).before args s = true)
    (hdef : ∀ j, j < K.2.2.1 → ∀ ty, parseFieldDescriptor (K.2.1 j).2.2.1 = some ty → RV S (cget ((2 * ci, K.2.2.1, (7, 0)), K.2.2.2.1) j) (defaultValue ty))
    (hdg : decode cc pc = .ok (.new index, 3)) (hs : xstep G E (.new index) (ci :: w) st ls h = some (st', ls', h')) (hcells : h'.1 - n0 ≤ R.cells) (hslots : h'.2.1 - z0 ≤ R.slots) (kk : XW p l e R s m args below meth c Q G D S V nL n0 z0 (pc + 3) st' ls' h') : XW p l e R s m args below meth c Q G D S V nL n0 z0 pc st ls h := by
  obtain ⟨K', hK', rfl, rfl, rfl⟩ := new_inv hs
  rw [hK] at hK'
  cases hK'
  intro hn hz lsC stC H locs hL hS hX hl
  obtain ⟨hU0, hin, -, hty⟩ := F.2.2.1 ci K hK
  have hU := u_Kn_moved C.2.2.2.2.2 hU0
  have e1 : (hnew h K.2.2.2.2 ((2 * ci, K.2.2.1, (7, 0)), K.2.2.2.1)).1 = h.1 + 1 := by rw [hnew_eq]
  have e2 : (hnew h K.2.2.2.2 ((2 * ci, K.2.2.1, (7, 0)), K.2.2.2.1)).2.1 = h.2.1 + K.2.2.2.2 := by rw [hnew_eq]
  have hsz : H.size = S.2.1 + h.1 := hX.1
  have kk := kk
  refine W.newcK C.1 C.2.1 C.2.2.2.1 hclink hins hinit rfl hdg (by omega) (by omega) hU.2.1 hsz fun H' kC hkC b1 b2 b3 => ?_
  have hty' : ∀ k, k < K.2.2.1 → parseFieldDescriptor (K.2.1 k).2.2.1 = some ((parseFieldDescriptor (K.2.1 k).2.2.1).getD .int) := by
    intro k hk
    obtain ⟨ty, ht⟩ := hty k hk
    rw [ht]; rfl
  obtain ⟨cell, o1, o2, o3, o4⟩ := u_born (fun k => (parseFieldDescriptor (K.2.1 k).2.2.1).getD .int) C.2.2.2.2.1 hin hU hkC b1 hty'
  have hN : NC G D S V ((2 * ci, K.2.2.1, (7, 0)), K.2.2.2.1) cell := by
    refine ⟨⟨fun q => ?_, fun _ K' hK' => ?_⟩, o3, fun q => ?_⟩
    · have q : 2 * ci % 2 = 1 := q
      omega
    · have hK' : xg G.2.1 (2 * ci / 2) = some K' := hK'
      rw [show 2 * ci / 2 = ci by omega, hK] at hK'
      cases hK'
      refine ⟨?_, (by rw [o3]; exact fun q => (by cases q)), (by rw [o3]; rfl), fun j hj => ?_⟩
      · show cell.cls = D.1 (2 * ci / 2)
        rw [show 2 * ci / 2 = ci by omega]; exact o2
      · show ∃ v, cell.slots[D.2.1 (2 * ci / 2) j]? = some v ∧ _
        rw [show 2 * ci / 2 = ci by omega]
        exact ⟨_, o4 j hj, hdef j hj _ (hty' j hj)⟩
    · have q : 2 * ci % 2 = 1 := q
      omega
  have hX' := hX.made (n := K.2.2.2.2) hN (by rw [hsz]; exact o1) (by rw [hsz]; exact b2) (by rw [hsz]; exact b3)
  have r := kk (by omega) (by omega) lsC (.ref (S.2.1 + h.1) :: stC) H' locs hL ⟨(xref_new _ _ _).symm, hS⟩ hX' hl
  rw [e1, e2, show h.1 + 1 - n0 = h.1 - n0 + 1 by omega, show h.2.1 + K.2.2.2.2 - z0 = h.2.1 - z0 + K.2.2.2.2 by omega] at r
  exact r
end NEW
