/-! WHAT THE EXECUTOR'S VALUES AND CELLS MEAN -/
def xref (b : Nat) (oa : Nat → Nat) (p : Nat) : Value := if p = 0 then .null else if p % 2 = 1 then .ref (b + p / 2) else .ref (oa (p / 2 - 1))
/-- the symbols, the first new cell's address, the old cells' addresses -/
abbrev xS : Type := (Nat → Int) × Nat × (Nat → Nat)
def RV (S : xS) (a : xV) (v : Value) : Prop := match a with
  | (0, n) => n < 4294967296 ∧ v = .int (q32 n)
  | (1, n) => v = xref S.2.1 S.2.2 n
  | (2, n) => n < 18446744073709551616 ∧ v = .long (q64 n)
  | (3, n) => v = .float (UInt32.ofNat n)
  | (4, n) => v = .double (UInt64.ofNat n)
  | (5, n) => ∃ x : Int32, v = .int x ∧ x.toInt + 4294967296 = S.1 (n / 8589934592) + ((n % 8589934592 : Nat) : Int)
  | (6, n) => ∃ x : Int64, v = .long x ∧ x.toInt + 4294967296 = S.1 (n / 8589934592) + ((n % 8589934592 : Nat) : Int) ∧ -2147483648 ≤ x.toInt ∧ x.toInt < 2147483648
  | (8, _) => ∃ r : Nat, v = .ref r
  | _ => True
def RVs (S : xS) : List xV → List Value → Prop
  | [], [] => True
  | a :: as, v :: vs => RV S a v ∧ RVs S as vs
  | _, _ => False
theorem RVs.cons {S : xS} {a : xV} {as : List xV} {vs : List Value} (h : RVs S (a :: as) vs) : ∃ v vs', vs = v :: vs' ∧ RV S a v ∧ RVs S as vs' := by
  cases vs with
  | nil => exact h.elim
  | cons v vs' => exact ⟨v, vs', rfl, h.1, h.2⟩
theorem RVs.nil {S : xS} {vs : List Value} (h : RVs S [] vs) : vs = [] := by
  cases vs with
  | nil => rfl
  | cons v vs' => exact h.elim
theorem RVs.length {S : xS} : ∀ {as : List xV} {vs : List Value}, RVs S as vs → vs.length = as.length
  | [], vs, h => by rw [h.nil]; rfl
  | a :: as, vs, h => by
    obtain ⟨v, vs', rfl, -, h2⟩ := h.cons
    simp [h2.length]
/-- the bounds hold of the symbols -/
def EOK (S : xS) (E : List (Nat × Nat × Nat)) : Prop := ∀ j lo hi st, xg E j = some (lo, hi, st) → (lo : Int) ≤ S.1 j + 2147483648 ∧ S.1 j + 2147483648 ≤ hi ∧ (S.1 j + 2147483648 - lo) % st = 0
theorem RV.int {S : xS} {a : xV} {v : Value} (h : RV S a v) (ht : xisI a.1 = true) : ∃ x : Int32, v = .int x := by
  obtain ⟨t, n⟩ := a
  match t, h, ht with
  | 0, h, _ => exact ⟨_, h.2⟩
  | 5, h, _ => obtain ⟨x, h1, -⟩ := h; exact ⟨x, h1⟩
theorem RV.long {S : xS} {a : xV} {v : Value} (h : RV S a v) (ht : xisL a.1 = true) : ∃ x : Int64, v = .long x := by
  obtain ⟨t, n⟩ := a
  match t, h, ht with
  | 2, h, _ => exact ⟨_, h.2⟩
  | 6, h, _ => obtain ⟨x, h1, -⟩ := h; exact ⟨x, h1⟩
theorem RV.refq {S : xS} {a : xV} {v : Value} (h : RV S a v) (ht : xisA a.1 = true) : v = .null ∨ ∃ r : Nat, v = .ref r := by
  obtain ⟨t, n⟩ := a
  match t, h, ht with
  | 1, h, _ =>
    have h : v = xref S.2.1 S.2.2 n := h
    rw [h]; unfold xref
    split
    · exact Or.inl rfl
    · split
      · exact Or.inr ⟨_, rfl⟩
      · exact Or.inr ⟨_, rfl⟩
  | 8, h, _ => exact Or.inr h
theorem RV.dbl {S : xS} {a : xV} {v : Value} (h : RV S a v) (ht : xisD a.1 = true) : ∃ x : UInt64, v = .double x := by
  obtain ⟨t, n⟩ := a
  match t, h, ht with
  | 4, h, _ => exact ⟨_, h⟩
theorem RV.cat1 {S : xS} {a : xV} {v : Value} (h : RV S a v) (ht : xone a = true) : v.category = 1 := by
  obtain ⟨t, n⟩ := a
  match t, h, ht with
  | 0, h, _ => rw [h.2]; rfl
  | 1, h, _ =>
    rcases RV.refq (a := (1, n)) h rfl with rfl | ⟨r, rfl⟩ <;> rfl
  | 3, h, _ =>
    have h : v = .float (UInt32.ofNat n) := h
    rw [h]; rfl
  | 5, h, _ => obtain ⟨x, rfl, -⟩ := h; rfl
  | 8, h, _ => obtain ⟨x, rfl⟩ := h; rfl
theorem RV.cat2 {S : xS} {a : xV} {v : Value} (h : RV S a v) (ht : xwide a = true) : v.category = 2 := by
  obtain ⟨t, n⟩ := a
  match t, h, ht with
  | 2, h, _ => rw [h.2]; rfl
  | 4, h, _ =>
    have h : v = .double (UInt64.ofNat n) := h
    rw [h]; rfl
  | 6, h, _ => obtain ⟨x, rfl, -⟩ := h; rfl
/-- the locals -/
def LR (S : xS) (nL : Nat) (als : List xV) (ls : Array Slot) : Prop := ls.size = nL ∧ lv_wf ls ∧ ∀ (i : Nat) (a : xV), xgd (7, 0) als i = a → (xone a || xwide a) = true → ∃ v, ls[i]? = some (.val v) ∧ RV S a v
def lv_all (ls : Array Slot) : List (Nat × Value) := (List.range ls.size).filterMap fun i => match ls[i]? with
  | some (Slot.val v) => some (i, v)
  | _ => none
theorem lv_all_mem {ls : Array Slot} {i : Nat} {v : Value} : (i, v) ∈ lv_all ls ↔ ls[i]? = some (.val v) := by
  unfold lv_all
  rw [List.mem_filterMap]
  constructor
  · rintro ⟨j, -, hj⟩
    split at hj
    · next w e => cases hj; exact e
    · cases hj
  · intro h
    refine ⟨i, List.mem_range.mpr (lv_lt h), ?_⟩
    rw [h]
theorem lv_all_has {ls : Array Slot} {nL : Nat} (h1 : ls.size = nL) (h2 : lv_wf ls) : lv_has ls nL (lv_all ls) := ⟨h1, h2, fun q hq => lv_all_mem.mp hq⟩
theorem xst_get (als : List xV) (i j : Nat) (a : xV) : xgd (7, 0) (xst als i a) j = if j = i then a else if (xwide a = true ∧ j = i + 1) ∨ (j + 1 = i ∧ xwide (xgd (7, 0) als j) = true) then (7, 0) else xgd (7, 0) als j := by
  unfold xst
  cases i with
  | zero =>
    dsimp only
    rw [xgd_xs]
    by_cases hj : j = 0
    · rw [if_pos hj, if_pos hj]
    · rw [if_neg hj, if_neg hj]
      split
      · rw [xgd_xs]
        by_cases h1 : j = 0 + 1
        · rw [if_pos h1, if_pos (Or.inl ⟨by assumption, h1⟩)]
        · rw [if_neg h1, if_neg (by rintro (⟨-, q⟩ | ⟨q, -⟩); exact h1 q; omega)]
      · next hw => rw [if_neg (by rintro (⟨q, -⟩ | ⟨q, -⟩); exact hw q; omega)]
  | succ k =>
    dsimp only
    by_cases hj : j = k + 1
    · subst hj
      rw [if_pos rfl]
      split
      · rw [xgd_xs, if_neg (by omega), xgd_xs, if_pos rfl]
      · rw [xgd_xs, if_pos rfl]
    · rw [if_neg hj]
      by_cases hk : xwide (xgd (7, 0) als k) = true
      · rw [if_pos hk, xgd_xs]
        by_cases h0 : j = k
        · rw [if_pos h0, if_pos (Or.inr ⟨by omega, by rw [h0]; exact hk⟩)]
        · rw [if_neg h0, xgd_xs, if_neg hj]
          split
          · next hw =>
            rw [xgd_xs]
            by_cases h1 : j = k + 1 + 1
            · rw [if_pos h1, if_pos (Or.inl ⟨hw, h1⟩)]
            · rw [if_neg h1, if_neg (by rintro (⟨-, q⟩ | ⟨q, -⟩); exact h1 q; omega)]
          · next hw => rw [if_neg (by rintro (⟨q, -⟩ | ⟨q, -⟩); exact hw q; omega)]
      · rw [if_neg hk, xgd_xs, if_neg hj]
        split
        · next hw =>
          rw [xgd_xs]
          by_cases h1 : j = k + 1 + 1
          · rw [if_pos h1, if_pos (Or.inl ⟨hw, h1⟩)]
          · rw [if_neg h1, if_neg (by rintro (⟨-, q⟩ | ⟨q, q2⟩); exact h1 q; exact hk (by rw [show k = j by omega]; exact q2))]
        · next hw => rw [if_neg (by rintro (⟨q, -⟩ | ⟨q, q2⟩); exact hw q; exact hk (by rw [show k = j by omega]; exact q2))]
theorem LR.store1 {S : xS} {nL i : Nat} {als : List xV} {ls ls' : Array Slot} {a : xV} {v : Value} (h : LR S nL als ls) (hv : RV S a v) (ha : xone a = true)
    (h' : lv_has ls' nL ((i, v) :: (lv_all ls).filter (fun q => !(q.1 == i) && !(q.1 + 1 == i && q.2.category == 2)))) : LR S nL (xst als i a) ls' := by
  have hnw : xwide a = false := by
    obtain ⟨t, n⟩ := a
    unfold xone at ha; unfold xwide
    dsimp only at ha ⊢
    split at ha <;> first | rfl | cases ha
  refine ⟨h'.1, h'.2.1, fun j b hb hk => ?_⟩
  rw [xst_get] at hb
  by_cases hj : j = i
  · rw [if_pos hj] at hb
    subst hb; subst hj
    exact ⟨v, h'.2.2 (j, v) List.mem_cons_self, hv⟩
  · rw [if_neg hj] at hb
    split at hb
    · rw [← hb] at hk; cases hk
    · next hn =>
      obtain ⟨w, hw, hr⟩ := h.2.2 j b hb hk
      refine ⟨w, h'.2.2 (j, w) (List.mem_cons_of_mem _ (List.mem_filter.mpr ⟨lv_all_mem.mpr hw, ?_⟩)), hr⟩
      have h1 : (j == i) = false := by simpa using hj
      dsimp only
      rw [h1]
      by_cases h2 : j + 1 = i
      · have h3 : xwide b = false := by
          cases hq : xwide b with
          | false => rfl
          | true => exact absurd (Or.inr ⟨h2, by rw [hb]; exact hq⟩) hn
        have h4 : xone b = true := by rw [h3, Bool.or_false] at hk; exact hk
        have h5 := hr.cat1 h4
        rw [h5]; simp
      · have h3 : (j + 1 == i) = false := by simpa using h2
        rw [h3]; rfl
theorem LR.store2 {S : xS} {nL i : Nat} {als : List xV} {ls ls' : Array Slot} {a : xV} {v : Value} (h : LR S nL als ls) (hv : RV S a v) (ha : xwide a = true)
    (h' : lv_has ls' nL ((i, v) :: (lv_all ls).filter (fun q => !(q.1 == i) && (!(q.1 == i + 1) && !(q.1 + 1 == i && q.2.category == 2))))) : LR S nL (xst als i a) ls' := by
  refine ⟨h'.1, h'.2.1, fun j b hb hk => ?_⟩
  rw [xst_get] at hb
  by_cases hj : j = i
  · rw [if_pos hj] at hb
    subst hb; subst hj
    exact ⟨v, h'.2.2 (j, v) List.mem_cons_self, hv⟩
  · rw [if_neg hj] at hb
    split at hb
    · rw [← hb] at hk; cases hk
    · next hn =>
      obtain ⟨w, hw, hr⟩ := h.2.2 j b hb hk
      refine ⟨w, h'.2.2 (j, w) (List.mem_cons_of_mem _ (List.mem_filter.mpr ⟨lv_all_mem.mpr hw, ?_⟩)), hr⟩
      have h1 : (j == i) = false := by simpa using hj
      have h1' : (j == i + 1) = false := by
        simp only [beq_eq_false_iff_ne]
        exact fun q => hn (Or.inl ⟨ha, q⟩)
      dsimp only
      rw [h1, h1']
      by_cases h2 : j + 1 = i
      · have h3 : xwide b = false := by
          cases hq : xwide b with
          | false => rfl
          | true => exact absurd (Or.inr ⟨h2, by rw [hb]; exact hq⟩) hn
        have h4 : xone b = true := by rw [h3, Bool.or_false] at hk; exact hk
        have h5 := hr.cat1 h4
        rw [h5]; simp
      · have h3 : (j + 1 == i) = false := by simpa using h2
        rw [h3]; rfl
