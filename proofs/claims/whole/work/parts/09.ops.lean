/-! ONE INSTRUCTION AFTER THE OTHER -/
/-- a method's body: the machine, its code and size, its class, the words, the tables as at the law's entry -/
def CX (p : Program) (s : State) (m : MethodId) (args : Array Value) (c : Code) (cc : ByteArray) (own : String) (nL : Nat) (Ts : List Jvm.Cond) (V : State) : Prop :=
  p.tables.exec = Jvm.exec ∧ c.code = cc ∧ c.maxLocals = nL ∧ s.vm.findClass own = some m.cls ∧ (∀ w ∈ Ts, w.before args s = true) ∧ V.vm.Alike s.vm
/-- what the tables of the executor say, of the law's entry -/
def FK (G : xG) (E : List (Nat × Nat × Nat)) (D : xD) (S : xS) (V : State) (Ts : List Jvm.Cond) : Prop :=
  EOK S E ∧ OH G D S V ∧
  (∀ ci k, xg G.2.1 ci = some k → u_Kn V k.1 k.2.1 k.2.2.1 (D.1 ci) (D.2.1 ci) ∧ (∀ w ∈ u_ws k.1 k.2.1 k.2.2.1, w ∈ Ts) ∧ (∀ a, a < k.2.2.1 → ∀ b, b < k.2.2.1 → a ≠ b → (k.2.1 a).2.1 ≠ (k.2.1 b).2.1) ∧ ∀ j, j < k.2.2.1 → ∃ ty, parseFieldDescriptor (k.2.1 j).2.2.1 = some ty) ∧
  (∀ t ty v, xg G.2.2.1 t = some (ty, v) → ArrOfT V (D.2.2 t) ty ∧ V.vm.findClass ("[" ++ ty.toString) = some (D.2.2 t))
def XW (p : Program) (l : Launch) (e : Env) (R : Room) (s : State) (m : MethodId) (args : Array Value) (below : List Frame) (meth : Method) (c : Code) (Q : State → Prop) (G : xG) (D : xD) (S : xS) (V : State) (nL n0 z0 : Nat) (pc : Nat) (st ls : List xV) (h : xH) : Prop :=
  n0 ≤ h.1 → z0 ≤ h.2.1 → ∀ (lsC : Array Slot) (stC : List Value) (H : Heap) (locs : List Loc), LR S nL ls lsC → RVs S st stC → XH G D S V h H → (∀ q ∈ locs, S.2.1 ≤ q.base) →
    W p l e R s m args below meth c H locs (h.1 - n0) (h.2.1 - z0) Q (F0 m pc lsC stC)
section OPS
variable {p : Program} {l : Launch} {e : Env} {R : Room} {s : State} {m : MethodId} {args : Array Value} {below : List Frame} {meth : Method} {c : Code} {Q : State → Prop} {G : xG} {E : List (Nat × Nat × Nat)} {D : xD} {S : xS} {V : State} {nL n0 z0 : Nat} {cc : ByteArray} {own : String} {Ts : List Jvm.Cond} {pc : Nat} {st ls st' ls' : List xV} {h h' : xH}
theorem so_iconst (C : CX p s m args c cc own nL Ts V) (F : FK G E D S V Ts) {n : Int} {q : Nat} (hdg : decode cc pc = .ok (.iconst n, 1)) (hq : q < 4294967296 ∧ Int32.ofInt n = q32 q) (kk : XW p l e R s m args below meth c Q G D S V nL n0 z0 (pc + 1) ((0, q) :: st) ls h) : XW p l e R s m args below meth c Q G D S V nL n0 z0 pc st ls h :=
  fun hn hz lsC stC H locs hL hS hX hl => lv_iconst C.1 C.2.1 hdg hq.2 (kk hn hz _ _ _ _ hL ⟨⟨hq.1, rfl⟩, hS⟩ hX hl)
theorem so_bipush (C : CX p s m args c cc own nL Ts V) (F : FK G E D S V Ts) {n : Int} {q : Nat} (hdg : decode cc pc = .ok (.bipush n, 2)) (hq : q < 4294967296 ∧ (Int8.ofInt n).toInt32 = q32 q) (kk : XW p l e R s m args below meth c Q G D S V nL n0 z0 (pc + 2) ((0, q) :: st) ls h) : XW p l e R s m args below meth c Q G D S V nL n0 z0 pc st ls h :=
  fun hn hz lsC stC H locs hL hS hX hl => lv_bipush C.1 C.2.1 hdg hq.2 (kk hn hz _ _ _ _ hL ⟨⟨hq.1, rfl⟩, hS⟩ hX hl)
theorem so_sipush (C : CX p s m args c cc own nL Ts V) (F : FK G E D S V Ts) {n : Int} {q : Nat} (hdg : decode cc pc = .ok (.sipush n, 3)) (hq : q < 4294967296 ∧ (Int16.ofInt n).toInt32 = q32 q) (kk : XW p l e R s m args below meth c Q G D S V nL n0 z0 (pc + 3) ((0, q) :: st) ls h) : XW p l e R s m args below meth c Q G D S V nL n0 z0 pc st ls h :=
  fun hn hz lsC stC H locs hL hS hX hl => lv_sipush C.1 C.2.1 hdg hq.2 (kk hn hz _ _ _ _ hL ⟨⟨hq.1, rfl⟩, hS⟩ hX hl)
theorem so_lconst (C : CX p s m args c cc own nL Ts V) (F : FK G E D S V Ts) {n : Fin 2} {q : Nat} (hdg : decode cc pc = .ok (.lconst n, 1)) (hq : q < 18446744073709551616 ∧ Int64.ofNat (n : Nat) = q64 q) (kk : XW p l e R s m args below meth c Q G D S V nL n0 z0 (pc + 1) ((2, q) :: st) ls h) : XW p l e R s m args below meth c Q G D S V nL n0 z0 pc st ls h :=
  fun hn hz lsC stC H locs hL hS hX hl => lv_lconst C.1 C.2.1 hdg hq.2 (kk hn hz _ _ _ _ hL ⟨⟨hq.1, rfl⟩, hS⟩ hX hl)
theorem so_null (C : CX p s m args c cc own nL Ts V) (F : FK G E D S V Ts) (hdg : decode cc pc = .ok (.aconst_null, 1)) (kk : XW p l e R s m args below meth c Q G D S V nL n0 z0 (pc + 1) ((1, 0) :: st) ls h) : XW p l e R s m args below meth c Q G D S V nL n0 z0 pc st ls h :=
  fun hn hz lsC stC H locs hL hS hX hl => lv_null C.1 C.2.1 hdg (kk hn hz _ _ _ _ hL ⟨rfl, hS⟩ hX hl)
theorem xload_spec {ok : Nat → Bool} {k : Nat} (hs : xload ok k st ls h = some (st', ls', h')) : ok (xgd (7, 0) ls k).1 = true ∧ st' = xgd (7, 0) ls k :: st ∧ ls' = ls ∧ h' = h := by
  unfold xload at hs
  dsimp only at hs
  split at hs
  · next hok => cases hs; exact ⟨hok, rfl, rfl, rfl⟩
  · cases hs
theorem kn_I {a : xV} (h : xisI a.1 = true) : (xone a || xwide a) = true ∧ xone a = true := by
  obtain ⟨t, n⟩ := a
  match t, h with
  | 0, _ => exact ⟨rfl, rfl⟩
  | 5, _ => exact ⟨rfl, rfl⟩
theorem kn_L {a : xV} (h : xisL a.1 = true) : (xone a || xwide a) = true ∧ xwide a = true := by
  obtain ⟨t, n⟩ := a
  match t, h with
  | 2, _ => exact ⟨rfl, rfl⟩
  | 6, _ => exact ⟨rfl, rfl⟩
theorem kn_A {a : xV} (h : xisA a.1 = true) : (xone a || xwide a) = true ∧ xone a = true := by
  obtain ⟨t, n⟩ := a
  match t, h with
  | 1, _ => exact ⟨rfl, rfl⟩
  | 8, _ => exact ⟨rfl, rfl⟩
theorem kn_D {a : xV} (h : xisD a.1 = true) : (xone a || xwide a) = true ∧ xwide a = true := by
  obtain ⟨t, n⟩ := a
  match t, h with
  | 4, _ => exact ⟨rfl, rfl⟩
theorem so_iload_n (C : CX p s m args c cc own nL Ts V) (F : FK G E D S V Ts) {k : Fin 4} (hdg : decode cc pc = .ok (.iload_n k, 1)) (hs : xload xisI k st ls h = some (st', ls', h')) (kk : XW p l e R s m args below meth c Q G D S V nL n0 z0 (pc + 1) st' ls' h') : XW p l e R s m args below meth c Q G D S V nL n0 z0 pc st ls h := by
  obtain ⟨hok, rfl, rfl, rfl⟩ := xload_spec hs
  intro hn hz lsC stC H locs hL hS hX hl
  obtain ⟨v, hv, hr⟩ := hL.2.2 _ _ rfl (kn_I hok).1
  obtain ⟨x, rfl⟩ := hr.int hok
  exact lv_iload_n C.1 C.2.1 hdg rfl hv (kk hn hz _ _ _ _ hL ⟨hr, hS⟩ hX hl)
theorem so_iload (C : CX p s m args c cc own nL Ts V) (F : FK G E D S V Ts) {k : Nat} (hdg : decode cc pc = .ok (.iload k, 2)) (hs : xload xisI k st ls h = some (st', ls', h')) (kk : XW p l e R s m args below meth c Q G D S V nL n0 z0 (pc + 2) st' ls' h') : XW p l e R s m args below meth c Q G D S V nL n0 z0 pc st ls h := by
  obtain ⟨hok, rfl, rfl, rfl⟩ := xload_spec hs
  intro hn hz lsC stC H locs hL hS hX hl
  obtain ⟨v, hv, hr⟩ := hL.2.2 _ _ rfl (kn_I hok).1
  obtain ⟨x, rfl⟩ := hr.int hok
  exact lv_iload C.1 C.2.1 hdg hv (kk hn hz _ _ _ _ hL ⟨hr, hS⟩ hX hl)
theorem so_lload_n (C : CX p s m args c cc own nL Ts V) (F : FK G E D S V Ts) {k : Fin 4} (hdg : decode cc pc = .ok (.lload_n k, 1)) (hs : xload xisL k st ls h = some (st', ls', h')) (kk : XW p l e R s m args below meth c Q G D S V nL n0 z0 (pc + 1) st' ls' h') : XW p l e R s m args below meth c Q G D S V nL n0 z0 pc st ls h := by
  obtain ⟨hok, rfl, rfl, rfl⟩ := xload_spec hs
  intro hn hz lsC stC H locs hL hS hX hl
  obtain ⟨v, hv, hr⟩ := hL.2.2 _ _ rfl (kn_L hok).1
  obtain ⟨x, rfl⟩ := hr.long hok
  exact lv_lload_n C.1 C.2.1 hdg rfl hv (kk hn hz _ _ _ _ hL ⟨hr, hS⟩ hX hl)
theorem so_lload (C : CX p s m args c cc own nL Ts V) (F : FK G E D S V Ts) {k : Nat} (hdg : decode cc pc = .ok (.lload k, 2)) (hs : xload xisL k st ls h = some (st', ls', h')) (kk : XW p l e R s m args below meth c Q G D S V nL n0 z0 (pc + 2) st' ls' h') : XW p l e R s m args below meth c Q G D S V nL n0 z0 pc st ls h := by
  obtain ⟨hok, rfl, rfl, rfl⟩ := xload_spec hs
  intro hn hz lsC stC H locs hL hS hX hl
  obtain ⟨v, hv, hr⟩ := hL.2.2 _ _ rfl (kn_L hok).1
  obtain ⟨x, rfl⟩ := hr.long hok
  exact lv_lload C.1 C.2.1 hdg hv (kk hn hz _ _ _ _ hL ⟨hr, hS⟩ hX hl)
theorem so_aload_n (C : CX p s m args c cc own nL Ts V) (F : FK G E D S V Ts) {k : Fin 4} (hdg : decode cc pc = .ok (.aload_n k, 1)) (hs : xload xisA k st ls h = some (st', ls', h')) (kk : XW p l e R s m args below meth c Q G D S V nL n0 z0 (pc + 1) st' ls' h') : XW p l e R s m args below meth c Q G D S V nL n0 z0 pc st ls h := by
  obtain ⟨hok, rfl, rfl, rfl⟩ := xload_spec hs
  intro hn hz lsC stC H locs hL hS hX hl
  obtain ⟨v, hv, hr⟩ := hL.2.2 _ _ rfl (kn_A hok).1
  rcases hr.refq hok with rfl | ⟨x, rfl⟩
  · exact lv_aload_nN C.1 C.2.1 hdg rfl hv (kk hn hz _ _ _ _ hL ⟨hr, hS⟩ hX hl)
  · exact lv_aload_n C.1 C.2.1 hdg rfl hv (kk hn hz _ _ _ _ hL ⟨hr, hS⟩ hX hl)
theorem so_aload (C : CX p s m args c cc own nL Ts V) (F : FK G E D S V Ts) {k : Nat} (hdg : decode cc pc = .ok (.aload k, 2)) (hs : xload xisA k st ls h = some (st', ls', h')) (kk : XW p l e R s m args below meth c Q G D S V nL n0 z0 (pc + 2) st' ls' h') : XW p l e R s m args below meth c Q G D S V nL n0 z0 pc st ls h := by
  obtain ⟨hok, rfl, rfl, rfl⟩ := xload_spec hs
  intro hn hz lsC stC H locs hL hS hX hl
  obtain ⟨v, hv, hr⟩ := hL.2.2 _ _ rfl (kn_A hok).1
  rcases hr.refq hok with rfl | ⟨x, rfl⟩
  · exact lv_aloadN C.1 C.2.1 hdg hv (kk hn hz _ _ _ _ hL ⟨hr, hS⟩ hX hl)
  · exact lv_aload C.1 C.2.1 hdg hv (kk hn hz _ _ _ _ hL ⟨hr, hS⟩ hX hl)
theorem xstore_spec {ok : Nat → Bool} {k : Nat} (hs : xstore ok k st ls h = some (st', ls', h')) : ∃ v, st = v :: st' ∧ ok v.1 = true ∧ ls' = xst ls k v ∧ h' = h := by
  unfold xstore at hs
  split at hs
  · split at hs
    · next hok => cases hs; exact ⟨_, rfl, hok, rfl, rfl⟩
    · cases hs
  · cases hs
theorem so_istore_n (C : CX p s m args c cc own nL Ts V) (F : FK G E D S V Ts) {k : Fin 4} (hk : (k : Nat) < nL) (hdg : decode cc pc = .ok (.istore_n k, 1)) (hs : xstore xisI k st ls h = some (st', ls', h')) (kk : XW p l e R s m args below meth c Q G D S V nL n0 z0 (pc + 1) st' ls' h') : XW p l e R s m args below meth c Q G D S V nL n0 z0 pc st ls h := by
  obtain ⟨a, rfl, hok, rfl, rfl⟩ := xstore_spec hs
  intro hn hz lsC stC H locs hL hS hX hl
  obtain ⟨v, vs, rfl, hr, hS'⟩ := hS.cons
  obtain ⟨x, rfl⟩ := hr.int hok
  exact lv_istore_n C.1 C.2.1 hdg rfl (lv_all_has hL.1 hL.2.1) hk rfl fun ls1 h1 => kk hn hz _ _ _ _ (hL.store1 hr (kn_I hok).2 h1) hS' hX hl
theorem so_istore (C : CX p s m args c cc own nL Ts V) (F : FK G E D S V Ts) {k : Nat} (hk : k < nL) (hdg : decode cc pc = .ok (.istore k, 2)) (hs : xstore xisI k st ls h = some (st', ls', h')) (kk : XW p l e R s m args below meth c Q G D S V nL n0 z0 (pc + 2) st' ls' h') : XW p l e R s m args below meth c Q G D S V nL n0 z0 pc st ls h := by
  obtain ⟨a, rfl, hok, rfl, rfl⟩ := xstore_spec hs
  intro hn hz lsC stC H locs hL hS hX hl
  obtain ⟨v, vs, rfl, hr, hS'⟩ := hS.cons
  obtain ⟨x, rfl⟩ := hr.int hok
  exact lv_istore C.1 C.2.1 hdg (lv_all_has hL.1 hL.2.1) hk rfl fun ls1 h1 => kk hn hz _ _ _ _ (hL.store1 hr (kn_I hok).2 h1) hS' hX hl
theorem so_lstore_n (C : CX p s m args c cc own nL Ts V) (F : FK G E D S V Ts) {k : Fin 4} (hk : (k : Nat) + 1 < nL) (hdg : decode cc pc = .ok (.lstore_n k, 1)) (hs : xstore xisL k st ls h = some (st', ls', h')) (kk : XW p l e R s m args below meth c Q G D S V nL n0 z0 (pc + 1) st' ls' h') : XW p l e R s m args below meth c Q G D S V nL n0 z0 pc st ls h := by
  obtain ⟨a, rfl, hok, rfl, rfl⟩ := xstore_spec hs
  intro hn hz lsC stC H locs hL hS hX hl
  obtain ⟨v, vs, rfl, hr, hS'⟩ := hS.cons
  obtain ⟨x, rfl⟩ := hr.long hok
  exact lv_lstore_n C.1 C.2.1 hdg rfl (lv_all_has hL.1 hL.2.1) hk rfl fun ls1 h1 => kk hn hz _ _ _ _ (hL.store2 hr (kn_L hok).2 h1) hS' hX hl
theorem so_lstore (C : CX p s m args c cc own nL Ts V) (F : FK G E D S V Ts) {k : Nat} (hk : k + 1 < nL) (hdg : decode cc pc = .ok (.lstore k, 2)) (hs : xstore xisL k st ls h = some (st', ls', h')) (kk : XW p l e R s m args below meth c Q G D S V nL n0 z0 (pc + 2) st' ls' h') : XW p l e R s m args below meth c Q G D S V nL n0 z0 pc st ls h := by
  obtain ⟨a, rfl, hok, rfl, rfl⟩ := xstore_spec hs
  intro hn hz lsC stC H locs hL hS hX hl
  obtain ⟨v, vs, rfl, hr, hS'⟩ := hS.cons
  obtain ⟨x, rfl⟩ := hr.long hok
  exact lv_lstore C.1 C.2.1 hdg (lv_all_has hL.1 hL.2.1) hk rfl fun ls1 h1 => kk hn hz _ _ _ _ (hL.store2 hr (kn_L hok).2 h1) hS' hX hl
theorem so_astore_n (C : CX p s m args c cc own nL Ts V) (F : FK G E D S V Ts) {k : Fin 4} (hk : (k : Nat) < nL) (hdg : decode cc pc = .ok (.astore_n k, 1)) (hs : xstore xisA k st ls h = some (st', ls', h')) (kk : XW p l e R s m args below meth c Q G D S V nL n0 z0 (pc + 1) st' ls' h') : XW p l e R s m args below meth c Q G D S V nL n0 z0 pc st ls h := by
  obtain ⟨a, rfl, hok, rfl, rfl⟩ := xstore_spec hs
  intro hn hz lsC stC H locs hL hS hX hl
  obtain ⟨v, vs, rfl, hr, hS'⟩ := hS.cons
  rcases hr.refq hok with rfl | ⟨x, rfl⟩
  · exact lv_astore_nN C.1 C.2.1 hdg rfl (lv_all_has hL.1 hL.2.1) hk rfl fun ls1 h1 => kk hn hz _ _ _ _ (hL.store1 hr (kn_A hok).2 h1) hS' hX hl
  · exact lv_astore_n C.1 C.2.1 hdg rfl (lv_all_has hL.1 hL.2.1) hk rfl fun ls1 h1 => kk hn hz _ _ _ _ (hL.store1 hr (kn_A hok).2 h1) hS' hX hl
theorem so_astore (C : CX p s m args c cc own nL Ts V) (F : FK G E D S V Ts) {k : Nat} (hk : k < nL) (hdg : decode cc pc = .ok (.astore k, 2)) (hs : xstore xisA k st ls h = some (st', ls', h')) (kk : XW p l e R s m args below meth c Q G D S V nL n0 z0 (pc + 2) st' ls' h') : XW p l e R s m args below meth c Q G D S V nL n0 z0 pc st ls h := by
  obtain ⟨a, rfl, hok, rfl, rfl⟩ := xstore_spec hs
  intro hn hz lsC stC H locs hL hS hX hl
  obtain ⟨v, vs, rfl, hr, hS'⟩ := hS.cons
  rcases hr.refq hok with rfl | ⟨x, rfl⟩
  · exact lv_astoreN C.1 C.2.1 hdg (lv_all_has hL.1 hL.2.1) hk rfl fun ls1 h1 => kk hn hz _ _ _ _ (hL.store1 hr (kn_A hok).2 h1) hS' hX hl
  · exact lv_astore C.1 C.2.1 hdg (lv_all_has hL.1 hL.2.1) hk rfl fun ls1 h1 => kk hn hz _ _ _ _ (hL.store1 hr (kn_A hok).2 h1) hS' hX hl
end OPS
