/-! BRANCHES -/
section BR
variable {p : Program} {l : Launch} {e : Env} {R : Room} {s : State} {m : MethodId} {args : Array Value} {below : List Frame} {meth : Method} {c : Code} {Q : State → Prop} {G : xG} {E : List (Nat × Nat × Nat)} {D : xD} {S : xS} {V : State} {nL n0 z0 : Nat} {cc : ByteArray} {own : String} {Ts : List Jvm.Cond} {pc : Nat} {w : List Nat} {st ls r : List xV} {h : xH} {off : Int} {tgt : Nat} {bb : Bool}
def Pq (c : ClassFile.Cond) (a b : Int32) : Prop := match c with
  | .eq => a = b
  | .ne => ¬ a = b
  | .lt => a < b
  | .ge => b ≤ a
  | .gt => b < a
  | .le => a ≤ b
theorem q32_le {a b : Nat} (ha : a < 4294967296) (hb : b < 4294967296) : q32 a ≤ q32 b ↔ a ≤ b := by
  rw [Int32.le_iff_toInt_le, q32_toInt ha, q32_toInt hb]; omega
theorem cmpN_q {c : ClassFile.Cond} {x y : Nat} (hx : x < 4294967296) (hy : y < 4294967296) : cmpN c x y = true ↔ Pq c (q32 x) (q32 y) := by
  cases c <;> unfold cmpN Pq <;> dsimp only
  · rw [beq_iff, q32_eq hx hy]
  · rw [not_iff, beq_iff, q32_eq hx hy]
  · rw [blt_iff, q32_lt hx hy]
  · rw [ble_iff, q32_le hy hx]
  · rw [blt_iff, q32_lt hy hx]
  · rw [ble_iff, q32_le hx hy]
theorem so_goto (C : CX p s m args c cc own nL Ts V) (F : FK G E D S V Ts) (hdg : decode cc pc = .ok (.goto off, 3)) (ht : (pc : Int) + off = (tgt : Int)) (kk : XW p l e R s m args below meth c Q G D S V nL n0 z0 tgt st ls h) : XW p l e R s m args below meth c Q G D S V nL n0 z0 pc st ls h :=
  fun hn hz lsC stC H locs hL hS hX hl => lv_goto C.1 C.2.1 hdg ht (kk hn hz _ _ _ _ hL hS hX hl)
theorem so_icmp (C : CX p s m args c cc own nL Ts V) (F : FK G E D S V Ts) {cd : ClassFile.Cond} (hdg : decode cc pc = .ok (.if_icmp cd off, 3)) (ht : (pc : Int) + off = (tgt : Int)) (hs : xbr E (.if_icmp cd off) st = some (bb, r)) (kt : bb = true → XW p l e R s m args below meth c Q G D S V nL n0 z0 tgt r ls h) (kf : bb = false → XW p l e R s m args below meth c Q G D S V nL n0 z0 (pc + 3) r ls h) : XW p l e R s m args below meth c Q G D S V nL n0 z0 pc st ls h := by
  replace hs : (match (generalizing := false) st with | y :: x :: r => (match xcmp E cd x y with | some b => some (b, r) | none => none) | _ => none) = some (bb, r) := hs
  split at hs
  · next y x r' =>
    split at hs
    · next b hb =>
      cases hs
      intro hn hz lsC stC H locs hL hS hX hl
      obtain ⟨vb, q, rfl, hvb, hS1⟩ := hS.cons
      obtain ⟨va, q, rfl, hva, hS2⟩ := hS1.cons
      obtain ⟨a, b', ha, hb', rfl, rfl, hc⟩ := xcmp_spec F.1 hb hva hvb
      have T := fun q : bb = true => kt q hn hz _ _ _ _ hL hS2 hX hl
      have K := fun q : bb = false => kf q hn hz _ _ _ _ hL hS2 hX hl
      have e := cmpN_q (c := cd) ha hb'
      rw [hc] at e
      cases cd
      · exact lv_icmp_eq C.1 C.2.1 hdg ht (fun q => T (e.mpr q)) (fun q => K (bool_not fun z => q (e.mp z)))
      · exact lv_icmp_ne C.1 C.2.1 hdg ht (fun q => T (e.mpr q)) (fun q => K (bool_not fun z => e.mp z q))
      · exact lv_icmp_lt C.1 C.2.1 hdg ht (fun q => T (e.mpr q)) (fun q => K (bool_not fun z => q (e.mp z)))
      · exact lv_icmp_ge C.1 C.2.1 hdg ht (fun q => T (e.mpr q)) (fun q => K (bool_not fun z => q (e.mp z)))
      · exact lv_icmp_gt C.1 C.2.1 hdg ht (fun q => T (e.mpr q)) (fun q => K (bool_not fun z => q (e.mp z)))
      · exact lv_icmp_le C.1 C.2.1 hdg ht (fun q => T (e.mpr q)) (fun q => K (bool_not fun z => q (e.mp z)))
    · cases hs
  · cases hs
theorem q32_zero : q32 2147483648 = 0 := by decide
theorem so_if (C : CX p s m args c cc own nL Ts V) (F : FK G E D S V Ts) {cd : ClassFile.Cond} (hdg : decode cc pc = .ok (.ifCond cd off, 3)) (ht : (pc : Int) + off = (tgt : Int)) (hs : xbr E (.ifCond cd off) st = some (bb, r)) (kt : bb = true → XW p l e R s m args below meth c Q G D S V nL n0 z0 tgt r ls h) (kf : bb = false → XW p l e R s m args below meth c Q G D S V nL n0 z0 (pc + 3) r ls h) : XW p l e R s m args below meth c Q G D S V nL n0 z0 pc st ls h := by
  replace hs : (match (generalizing := false) st with | x :: r => (match xcmp E cd x (0, 2147483648) with | some b => some (b, r) | none => none) | [] => none) = some (bb, r) := hs
  split at hs
  · next x r' =>
    split at hs
    · next b hb =>
      cases hs
      intro hn hz lsC stC H locs hL hS hX hl
      obtain ⟨va, q, rfl, hva, hS2⟩ := hS.cons
      obtain ⟨a, b', ha, hb', rfl, h0, hc⟩ := xcmp_spec (v := .int 0) F.1 hb hva ⟨by decide, by rw [q32_zero]⟩
      have h0 : (0 : Int32) = q32 b' := Value.int.inj h0
      have T := fun q : bb = true => kt q hn hz _ _ _ _ hL hS2 hX hl
      have K := fun q : bb = false => kf q hn hz _ _ _ _ hL hS2 hX hl
      have e := cmpN_q (c := cd) ha hb'
      rw [hc, ← h0] at e
      cases cd
      · exact lv_if_eq C.1 C.2.1 hdg ht (fun q => T (e.mpr q)) (fun q => K (bool_not fun z => q (e.mp z)))
      · exact lv_if_ne C.1 C.2.1 hdg ht (fun q => T (e.mpr q)) (fun q => K (bool_not fun z => e.mp z q))
      · exact lv_if_lt C.1 C.2.1 hdg ht (fun q => T (e.mpr q)) (fun q => K (bool_not fun z => q (e.mp z)))
      · exact lv_if_ge C.1 C.2.1 hdg ht (fun q => T (e.mpr q)) (fun q => K (bool_not fun z => q (e.mp z)))
      · exact lv_if_gt C.1 C.2.1 hdg ht (fun q => T (e.mpr q)) (fun q => K (bool_not fun z => q (e.mp z)))
      · exact lv_if_le C.1 C.2.1 hdg ht (fun q => T (e.mpr q)) (fun q => K (bool_not fun z => q (e.mp z)))
    · cases hs
  · cases hs
theorem xref_cases (b : Nat) (oa : Nat → Nat) (n : Nat) : (n = 0 ∧ xref b oa n = .null) ∨ (n ≠ 0 ∧ ∃ q : Nat, xref b oa n = .ref q) := by
  unfold xref
  by_cases h0 : n = 0
  · rw [if_pos h0]; exact Or.inl ⟨h0, rfl⟩
  · rw [if_neg h0]
    refine Or.inr ⟨h0, ?_⟩
    split
    · exact ⟨_, rfl⟩
    · exact ⟨_, rfl⟩
theorem so_ifnull (C : CX p s m args c cc own nL Ts V) (F : FK G E D S V Ts) (hdg : decode cc pc = .ok (.ifnull off, 3)) (ht : (pc : Int) + off = (tgt : Int)) (hs : xbr E (.ifnull off) st = some (bb, r)) (kt : bb = true → XW p l e R s m args below meth c Q G D S V nL n0 z0 tgt r ls h) (kf : bb = false → XW p l e R s m args below meth c Q G D S V nL n0 z0 (pc + 3) r ls h) : XW p l e R s m args below meth c Q G D S V nL n0 z0 pc st ls h := by
  replace hs : (match (generalizing := false) st with | x :: r => (match x.1 with | 1 => some (Nat.beq x.2 0, r) | 8 => some (false, r) | _ => none) | [] => none) = some (bb, r) := hs
  split at hs
  · next x r' =>
    obtain ⟨t, n⟩ := x
    try dsimp only at hs
    split at hs
    · cases hs
      intro hn hz lsC stC H locs hL hS hX hl
      obtain ⟨va, q, rfl, hva, hS2⟩ := hS.cons
      have hva : va = xref S.2.1 S.2.2 n := hva
      rcases xref_cases S.2.1 S.2.2 n with ⟨h0, e0⟩ | ⟨h0, q0, e0⟩
      · rw [hva, e0]; exact lv_ifnullN C.1 C.2.1 hdg ht (kt (beq_iff.mpr h0) hn hz _ _ _ _ hL hS2 hX hl)
      · rw [hva, e0]; exact lv_ifnull C.1 C.2.1 hdg (kf (bool_not fun z => h0 (beq_iff.mp z)) hn hz _ _ _ _ hL hS2 hX hl)
    · cases hs
      intro hn hz lsC stC H locs hL hS hX hl
      obtain ⟨va, q, rfl, hva, hS2⟩ := hS.cons
      obtain ⟨q0, e0⟩ : ∃ q0 : Nat, va = .ref q0 := hva
      rw [e0]; exact lv_ifnull C.1 C.2.1 hdg (kf rfl hn hz _ _ _ _ hL hS2 hX hl)
    · cases hs
  · cases hs
theorem so_ifnonnull (C : CX p s m args c cc own nL Ts V) (F : FK G E D S V Ts) (hdg : decode cc pc = .ok (.ifnonnull off, 3)) (ht : (pc : Int) + off = (tgt : Int)) (hs : xbr E (.ifnonnull off) st = some (bb, r)) (kt : bb = true → XW p l e R s m args below meth c Q G D S V nL n0 z0 tgt r ls h) (kf : bb = false → XW p l e R s m args below meth c Q G D S V nL n0 z0 (pc + 3) r ls h) : XW p l e R s m args below meth c Q G D S V nL n0 z0 pc st ls h := by
  replace hs : (match (generalizing := false) st with | x :: r => (match x.1 with | 1 => some (!Nat.beq x.2 0, r) | 8 => some (true, r) | _ => none) | [] => none) = some (bb, r) := hs
  split at hs
  · next x r' =>
    obtain ⟨t, n⟩ := x
    try dsimp only at hs
    split at hs
    · cases hs
      intro hn hz lsC stC H locs hL hS hX hl
      obtain ⟨va, q, rfl, hva, hS2⟩ := hS.cons
      have hva : va = xref S.2.1 S.2.2 n := hva
      rcases xref_cases S.2.1 S.2.2 n with ⟨h0, e0⟩ | ⟨h0, q0, e0⟩
      · rw [hva, e0]; exact lv_ifnonnullN C.1 C.2.1 hdg (kf (by rw [h0]; rfl) hn hz _ _ _ _ hL hS2 hX hl)
      · rw [hva, e0]; exact lv_ifnonnull C.1 C.2.1 hdg ht (kt (not_iff.mpr fun z => h0 (beq_iff.mp z)) hn hz _ _ _ _ hL hS2 hX hl)
    · cases hs
      intro hn hz lsC stC H locs hL hS hX hl
      obtain ⟨va, q, rfl, hva, hS2⟩ := hS.cons
      obtain ⟨q0, e0⟩ : ∃ q0 : Nat, va = .ref q0 := hva
      rw [e0]; exact lv_ifnonnull C.1 C.2.1 hdg ht (kt rfl hn hz _ _ _ _ hL hS2 hX hl)
    · cases hs
  · cases hs
end BR
