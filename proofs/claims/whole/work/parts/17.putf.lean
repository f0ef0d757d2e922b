/-! FIELDS WRITTEN -/
section PUTF
variable {p : Program} {l : Launch} {e : Env} {R : Room} {s : State} {m : MethodId} {args : Array Value} {below : List Frame} {meth : Method} {c : Code} {Q : State → Prop} {G : xG} {E : List (Nat × Nat × Nat)} {D : xD} {S : xS} {V : State} {nL n0 z0 : Nat} {cc : ByteArray} {own : String} {Ts : List Jvm.Cond} {pc : Nat} {w : List Nat} {st ls st' ls' : List xV} {h h' : xH}
theorem so_getfN (C : CX p s m args c cc own nL Ts V) (F : FK G E D S V Ts) {K : xK} {k ci index : Nat} {ref host : String} (hK : xg G.2.1 ci = some K) (hk : k < K.2.2.1) (hlink : (Cond.fieldLinkNest own index ref (K.2.1 k).2.1 (K.2.1 k).2.2.1 host).before args s = true) (hsame : ∀ x, s.fieldFound? (K.2.1 k).1 (K.2.1 k).2.1 (K.2.1 k).2.2.1 = some x → s.fieldFound? ref (K.2.1 k).2.1 (K.2.1 k).2.2.1 = some x) (hdg : decode cc pc = .ok (.getfield index, 3)) (hs : xstep G E (.getfield index) (k :: ci :: w) st ls h = some (st', ls', h')) (kk : XW p l e R s m args below meth c Q G D S V nL n0 z0 (pc + 3) st' ls' h') : XW p l e R s m args below meth c Q G D S V nL n0 z0 pc st ls h := by
  obtain ⟨o, r, cl, rfl, hc, h2, h3, rfl, rfl, rfl⟩ := getf_inv hs
  intro hn hz lsC stC H locs hL hS hX hl
  obtain ⟨q, cell, v, rest, cf, fi, kf, f, rfl, g1, g2, g3, g4, g5, g6⟩ := getf_core C F hK hk hc h2 h3 hS hX
  exact va_Wgetf C.1 C.2.1 C.2.2.2.1 hlink (hsame _ g3) g4 g1 g2 g5 rfl rfl hdg (kk hn hz _ _ _ _ hL g6 hX hl)
/-- the kind of a field, by its type -/
def xkt (t : Nat) (ty : FieldType) : Prop := match t with
  | 0 => ty = .int
  | 1 => ty = .long
  | 2 => ty = .boolean
  | 3 => ty = .byte
  | 4 => ty = .char
  | 5 => ty = .double
  | _ => (∃ C, ty = .object C) ∨ ∃ u, ty = .array u
theorem xfits_ok {t : Nat} {ty : FieldType} {a : xV} {v : Value} (hf : xfits E t a = true) (hv : RV S a v) (ht : xkt t ty) : narrow ty v = v ∧ fits ty v = true := by
  match t, hf, ht with
  | 0, hf, ht =>
    obtain ⟨x, rfl⟩ := hv.int hf
    have ht : ty = .int := ht
    subst ht
    exact ⟨rfl, rfl⟩
  | 1, hf, ht =>
    obtain ⟨x, rfl⟩ := hv.long hf
    have ht : ty = .long := ht
    subst ht
    exact ⟨rfl, rfl⟩
  | 2, hf, ht =>
    have ht : ty = .boolean := ht
    subst ht
    obtain ⟨tv, n⟩ := a
    replace hf : (match (generalizing := false) tv with | 0 => Nat.beq n 2147483648 || Nat.beq n 2147483649 | _ => false) = true := hf
    split at hf
    · rw [Bool.or_eq_true, beq_iff, beq_iff] at hf
      rw [hv.i0.2]
      refine ⟨fits_bool hf, ?_⟩
      rcases hf with rfl | rfl <;> decide
    · cases hf
  | 3, hf, ht =>
    have ht : ty = .byte := ht
    subst ht
    obtain ⟨tv, n⟩ := a
    replace hf : (match (generalizing := false) tv with | 0 => Nat.ble 2147483520 n && Nat.ble n 2147483775 | _ => false) = true := hf
    split at hf
    · rw [Bool.and_eq_true] at hf
      have h1 := ble_iff.mp hf.1
      have h2 := ble_iff.mp hf.2
      have hn := hv.i0.1
      rw [hv.i0.2]
      refine ⟨fits_byte h1 h2, ?_⟩
      have e : ∀ x : Int32, fits .byte (.int x) = (decide (-128 ≤ x) && decide (x ≤ 127)) := fun x => rfl
      rw [e, Bool.and_eq_true, decide_eq_true_eq, decide_eq_true_eq, Int32.le_iff_toInt_le, Int32.le_iff_toInt_le, q32_toInt hn]
      have e1 : (-128 : Int32).toInt = -128 := by decide
      have e2 : (127 : Int32).toInt = 127 := by decide
      rw [e1, e2]; omega
    · cases hf
  | 4, hf, ht =>
    have ht : ty = .char := ht
    subst ht
    obtain ⟨tv, n⟩ := a
    replace hf : (match (generalizing := false) tv with | 0 => Nat.ble 2147483648 n && Nat.ble n 2147549183 | _ => false) = true := hf
    split at hf
    · rw [Bool.and_eq_true] at hf
      have h1 := ble_iff.mp hf.1
      have h2 := ble_iff.mp hf.2
      have hn := hv.i0.1
      rw [hv.i0.2]
      refine ⟨fits_char h1 h2, ?_⟩
      have e : ∀ x : Int32, fits .char (.int x) = (decide (0 ≤ x) && decide (x ≤ 65535)) := fun x => rfl
      rw [e, Bool.and_eq_true, decide_eq_true_eq, decide_eq_true_eq, Int32.le_iff_toInt_le, Int32.le_iff_toInt_le, q32_toInt hn]
      have e1 : (0 : Int32).toInt = 0 := by decide
      have e2 : (65535 : Int32).toInt = 65535 := by decide
      rw [e1, e2]; omega
    · cases hf
  | 5, hf, ht =>
    obtain ⟨x, rfl⟩ := hv.dbl hf
    have ht : ty = .double := ht
    subst ht
    exact ⟨rfl, rfl⟩
  | t + 6, hf, ht =>
    have ht : (∃ C, ty = .object C) ∨ ∃ u, ty = .array u := ht
    obtain ⟨tv, n⟩ := a
    replace hf : (match (generalizing := false) tv with | 1 => true | _ => false) = true := hf
    split at hf
    · rcases RV.refq (a := (1, n)) hv rfl with rfl | ⟨q, rfl⟩ <;> rcases ht with ⟨C, rfl⟩ | ⟨u, rfl⟩ <;> exact ⟨rfl, rfl⟩
    · cases hf
theorem putf_inv {index k ci t : Nat} (hs : xstep G E (.putfield index) (k :: ci :: t :: w) st ls h = some (st', ls', h')) : ∃ v o r q cl, st = v :: o :: r ∧ xnewk h o = some q ∧ hget h q = some cl ∧ cl.1.1 % 2 = 0 ∧ cl.1.1 / 2 = ci ∧ xfits E t v = true ∧ st' = r ∧ ls' = ls ∧ h' = hset h q (cset cl k v) := by
  replace hs : (match (generalizing := false) st with
    | v :: o :: r => (match xnewk h o with
      | some q => (match hget h q with | some c => if Nat.beq c.1.1 (2 * ci) && xfits E t v then some (r, ls, hset h q (cset c k v)) else none | none => none)
      | none => none)
    | _ => none) = some (st', ls', h') := by
    cases st with
    | nil => exact hs
    | cons v r => cases r with
      | nil => exact hs
      | cons o r => exact hs
  split at hs
  · next v o r =>
    split at hs
    · next q hq =>
      split at hs
      · next cl hc =>
        split at hs
        · next hb =>
          rw [Bool.and_eq_true] at hb
          have hb1 := beq_iff.mp hb.1
          cases hs
          exact ⟨v, o, _, q, cl, rfl, hq, hc, by omega, by omega, hb.2, rfl, rfl, rfl⟩
        · cases hs
      · cases hs
    · cases hs
  · cases hs
theorem fk_apart (C : CX p s m args c cc own nL Ts V) (F : FK G E D S V Ts) {K : xK} {ci : Nat} (hK : xg G.2.1 ci = some K) : ∀ x y, x < K.2.2.1 → y < K.2.2.1 → x ≠ y → D.2.1 ci x ≠ D.2.1 ci y := by
  intro x y hx hy hne
  obtain ⟨hU, hin, hnm, hty⟩ := F.2.2.1 ci K hK
  obtain ⟨hSl, -⟩ := u_Kn_moved C.2.2.2.2.2 hU
  obtain ⟨_, _, _, fa, hia, ea⟩ := hSl x hx
  obtain ⟨_, _, _, fb, hib, eb⟩ := hSl y hy
  obtain ⟨tx, htx⟩ := hty x hx
  obtain ⟨ty, hty⟩ := hty y hy
  rw [← ea, ← eb]
  refine u_apart (u_lays C.2.2.2.2.1 hin hx) (u_lays C.2.2.2.2.1 hin hy) hia hib ?_
  rw [(State.fieldFound?_type hia htx).1, (State.fieldFound?_type hib hty).1]
  exact hnm x hx y hy hne
theorem NC.setf (C : CX p s m args c cc own nL Ts V) (F : FK G E D S V Ts) {K : xK} {ci k : Nat} (hK : xg G.2.1 ci = some K) (hk : k < K.2.2.1) {cl : xC} {cell : Cell} {a : xV} {v : Value} (hN : NC G D S V cl cell) (h2 : cl.1.1 % 2 = 0) (h3 : cl.1.1 / 2 = ci) (hr : RV S a v) : NC G D S V (cset cl k a) (cell.setSlot (D.2.1 ci k) v) := by
  obtain ⟨⟨g1, g2⟩, g3, g4⟩ := hN
  refine ⟨⟨fun q => ?_, fun _ K' hK' => ?_⟩, g3, fun q => ?_⟩
  · have q : cl.1.1 % 2 = 1 := q
    omega
  · have hK' : xg G.2.1 (cl.1.1 / 2) = some K' := hK'
    obtain ⟨e1, e2, e3, e4⟩ := g2 h2 K' hK'
    rw [h3, hK] at hK'
    cases hK'
    refine ⟨e1, e2, e3, fun j hj => ?_⟩
    show ∃ v', (cell.setSlot (D.2.1 ci k) v).slots[D.2.1 (cl.1.1 / 2) j]? = some v' ∧ _
    rw [h3] at e4 ⊢
    obtain ⟨vk, hvk, -⟩ := e4 k hk
    rw [set_slot (k2_hasslot hvk), cget_cset]
    by_cases e : j = k
    · subst e
      rw [if_pos rfl, if_pos rfl]; exact ⟨v, rfl, hr⟩
    · rw [if_neg (fk_apart C F hK j k hj hk e), if_neg e]
      exact e4 j hj
  · have q : cl.1.1 % 2 = 1 := q
    omega
theorem putf_core (C : CX p s m args c cc own nL Ts V) (F : FK G E D S V Ts) {K : xK} {k ci : Nat} (hK : xg G.2.1 ci = some K) (hk : k < K.2.2.1) {v o : xV} {r : List xV} {q : Nat} {cl : xC} (hq : xnewk h o = some q) (hc : hget h q = some cl) (h2 : cl.1.1 % 2 = 0) (h3 : cl.1.1 / 2 = ci) {stC : List Value} {H : Heap} (hS : RVs S (v :: o :: r) stC) (hX : XH G D S V h H) :
    ∃ (cell : Cell) (x : Value) (rest : List Value) (cf fi : Nat) (kf kC : Class) (f : Field), stC = x :: .ref (S.2.1 + q) :: rest ∧ q < h.1 ∧ H[S.2.1 + q]? = some cell ∧ cell.vm = .none ∧ cell.cls = D.1 ci ∧ s.fieldFound? (K.2.1 k).1 (K.2.1 k).2.1 (K.2.1 k).2.2.1 = some (cf, kf, fi, f) ∧ f.isStatic = false ∧ f.slot = D.2.1 ci k ∧ f.slot < cell.slots.size ∧ s.vm.findClass K.1 = some (D.1 ci) ∧ s.vm.classes[D.1 ci]? = some kC ∧ kC.kind = .ordinary ∧ RV S v x ∧ NC G D S V cl cell ∧ RVs S r rest := by
  obtain ⟨x, q1, rfl, hv, hS0⟩ := hS.cons
  obtain ⟨va, q2, rfl, hva, hS2⟩ := hS0.cons
  obtain ⟨hq1, rfl⟩ := xnewk_spec hq hva
  obtain ⟨cell, hH, hN⟩ := hX.new_at hq1 hc
  obtain ⟨hcl, hvm, -, hsl⟩ := hN.1.2 h2 K (by rw [h3]; exact hK)
  obtain ⟨v0, hv0, -⟩ := hsl k hk
  obtain ⟨hU, hin, -, -⟩ := F.2.2.1 ci K hK
  obtain ⟨hSl, hfc, kC, hkC, hkind⟩ := u_Kn_moved C.2.2.2.2.2 hU
  obtain ⟨cf, kf, fi, f, hi, hsl2⟩ := hSl k hk
  rw [h3] at hcl hv0
  exact ⟨cell, x, q2, cf, fi, kf, kC, f, rfl, hq1, hH, hN.2.1, hcl, hi, (u_facts hfc hkC (u_lays C.2.2.2.2.1 hin hk) hi).1, hsl2, by rw [hsl2]; exact k2_hasslot hv0, hfc, hkC, hkind, hv, hN, hS2⟩
theorem so_putf (C : CX p s m args c cc own nL Ts V) (F : FK G E D S V Ts) {K : xK} {k ci t index : Nat} {ref : String} {ty : FieldType} (hK : xg G.2.1 ci = some K) (hk : k < K.2.2.1) (hlink : (Cond.fieldLink own index ref (K.2.1 k).2.1 (K.2.1 k).2.2.1).before args s = true) (hsame : ∀ x, s.fieldFound? (K.2.1 k).1 (K.2.1 k).2.1 (K.2.1 k).2.2.1 = some x → s.fieldFound? ref (K.2.1 k).2.1 (K.2.1 k).2.2.1 = some x) (hfin : (K.2.1 k).2.2.2 = false) (hd : parseFieldDescriptor (K.2.1 k).2.2.1 = some ty) (hty : xkt t ty) (hdg : decode cc pc = .ok (.putfield index, 3)) (hs : xstep G E (.putfield index) (k :: ci :: t :: w) st ls h = some (st', ls', h')) (kk : XW p l e R s m args below meth c Q G D S V nL n0 z0 (pc + 3) st' ls' h') : XW p l e R s m args below meth c Q G D S V nL n0 z0 pc st ls h := by
  obtain ⟨v, o, r, q, cl, rfl, hq, hc, h2, h3, hf, rfl, rfl, rfl⟩ := putf_inv hs
  intro hn hz lsC stC H locs hL hS hX hl
  obtain ⟨cell, x, rest, cf, fi, kf, kC, f, rfl, g1, g2, g3, g4, g5, g6, g7, g8, g9, g10, g11, g12, g13, g14⟩ := putf_core C F hK hk hq hc h2 h3 hS hX
  obtain ⟨hnar, hfit⟩ := xfits_ok hf g12 hty
  have hlay := C.2.2.2.2.1 _ ((F.2.2.1 ci K hK).2.1 _ (u_in_lay hk))
  unfold u_lay at hlay
  rw [if_neg (by rw [hfin]; decide)] at hlay
  have h6 := u_store g9 g10 g11 hlay g5 hd hnar hfit
  refine W.putK C.1 C.2.1 (f := f) ⟨C.2.2.2.1, hlink, ⟨_, _, _, hsame _ g5⟩, g6⟩ (by rw [g4]; exact h6) g2 g3 g8 rfl rfl hdg fun H' e1 e2 e3 => kk hn hz _ _ _ _ hL g14 (hX.set g1 (NC.setf C F hK hk g13 h2 h3 g12) (by rw [← g7]; exact e1) e2 e3) (locs_ok hl)
theorem so_putfN (C : CX p s m args c cc own nL Ts V) (F : FK G E D S V Ts) {K : xK} {k ci t index : Nat} {ref host : String} {ty : FieldType} (hK : xg G.2.1 ci = some K) (hk : k < K.2.2.1) (hlink : (Cond.fieldLinkNest own index ref (K.2.1 k).2.1 (K.2.1 k).2.2.1 host).before args s = true) (hsame : ∀ x, s.fieldFound? (K.2.1 k).1 (K.2.1 k).2.1 (K.2.1 k).2.2.1 = some x → s.fieldFound? ref (K.2.1 k).2.1 (K.2.1 k).2.2.1 = some x) (hfin : (K.2.1 k).2.2.2 = false) (hd : parseFieldDescriptor (K.2.1 k).2.2.1 = some ty) (hty : xkt t ty) (hdg : decode cc pc = .ok (.putfield index, 3)) (hs : xstep G E (.putfield index) (k :: ci :: t :: w) st ls h = some (st', ls', h')) (kk : XW p l e R s m args below meth c Q G D S V nL n0 z0 (pc + 3) st' ls' h') : XW p l e R s m args below meth c Q G D S V nL n0 z0 pc st ls h := by
  obtain ⟨v, o, r, q, cl, rfl, hq, hc, h2, h3, hf, rfl, rfl, rfl⟩ := putf_inv hs
  intro hn hz lsC stC H locs hL hS hX hl
  obtain ⟨cell, x, rest, cf, fi, kf, kC, f, rfl, g1, g2, g3, g4, g5, g6, g7, g8, g9, g10, g11, g12, g13, g14⟩ := putf_core C F hK hk hq hc h2 h3 hS hX
  obtain ⟨hnar, hfit⟩ := xfits_ok hf g12 hty
  have hlay := C.2.2.2.2.1 _ ((F.2.2.1 ci K hK).2.1 _ (u_in_lay hk))
  unfold u_lay at hlay
  rw [if_neg (by rw [hfin]; decide)] at hlay
  have h6 := u_store g9 g10 g11 hlay g5 hd hnar hfit
  refine va_WputK C.1 C.2.1 (f := f) C.2.2.2.1 hlink (hsame _ g5) g6 (by rw [g4]; exact h6) g2 g3 g8 rfl rfl hdg fun H' e1 e2 e3 => kk hn hz _ _ _ _ hL g14 (hX.set g1 (NC.setf C F hK hk g13 h2 h3 g12) (by rw [← g7]; exact e1) e2 e3) (locs_ok hl)
theorem so_putfF (C : CX p s m args c cc own nL Ts V) (F : FK G E D S V Ts) {K : xK} {k ci t index : Nat} {ref : String} {ty : FieldType} (hK : xg G.2.1 ci = some K) (hk : k < K.2.2.1) (hlink : (Cond.fieldLink own index ref (K.2.1 k).2.1 (K.2.1 k).2.2.1).before args s = true) (hsame : ∀ x, s.fieldFound? (K.2.1 k).1 (K.2.1 k).2.1 (K.2.1 k).2.2.1 = some x → s.fieldFound? ref (K.2.1 k).2.1 (K.2.1 k).2.2.1 = some x) (hfin : (K.2.1 k).2.2.2 = true) (hin2 : meth.name = "<init>") (hdecl : (K.2.1 k).1 = own) (hd : parseFieldDescriptor (K.2.1 k).2.2.1 = some ty) (hty : xkt t ty) (hdg : decode cc pc = .ok (.putfield index, 3)) (hs : xstep G E (.putfield index) (k :: ci :: t :: w) st ls h = some (st', ls', h')) (kk : XW p l e R s m args below meth c Q G D S V nL n0 z0 (pc + 3) st' ls' h') : XW p l e R s m args below meth c Q G D S V nL n0 z0 pc st ls h := by
  obtain ⟨v, o, r, q, cl, rfl, hq, hc, h2, h3, hf, rfl, rfl, rfl⟩ := putf_inv hs
  intro hn hz lsC stC H locs hL hS hX hl
  obtain ⟨cell, x, rest, cf, fi, kf, kC, f, rfl, g1, g2, g3, g4, g5, g6, g7, g8, g9, g10, g11, g12, g13, g14⟩ := putf_core C F hK hk hq hc h2 h3 hS hX
  obtain ⟨hnar, hfit⟩ := xfits_ok hf g12 hty
  have hlay := C.2.2.2.2.1 _ ((F.2.2.1 ci K hK).2.1 _ (u_in_lay hk))
  unfold u_lay at hlay
  rw [if_pos hfin] at hlay
  have hcf : m.cls = cf := by
    obtain ⟨_, _, c', _, _, _, -, -, hf', -, -, -, hown2, -⟩ := Cond.laysFinal_spec hlay
    have e1 : c' = cf := by have := g5.symm.trans hf'; simp at this; exact this.1.symm
    rw [hdecl] at hown2
    rw [← e1]; exact Option.some.inj (C.2.2.2.1.symm.trans hown2)
  have h6 := u_fits g9 g10 g11 (Or.inr hlay) g5 hd hnar hfit
  refine W.putFinK C.1 C.2.1 C.2.2.2.1 hlink (hsame _ g5) g6 hcf hin2 (by rw [g4]; exact h6) g2 g3 g8 rfl rfl hdg fun H' e1 e2 e3 => kk hn hz _ _ _ _ hL g14 (hX.set g1 (NC.setf C F hK hk g13 h2 h3 g12) (by rw [← g7]; exact e1) e2 e3) (locs_ok hl)
end PUTF
