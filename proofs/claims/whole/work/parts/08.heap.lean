/-! THE HEAP -/
/-- class numbers, slots of their fields, numbers of the array classes -/
abbrev xD : Type := (Nat → ClassId) × (Nat → Nat → Nat) × (Nat → ClassId)
noncomputable def xat (G : xG) (t : Nat) : FieldType := (xgd (.int, (7, 0)) G.2.2.1 t).1
theorem blt_lt {a b : Nat} (h : Nat.blt a b = true) : a < b := Nat.le_of_ble_eq_true h
/-- a cell as it can be read (V: the law's entry, for the tables) -/
def RC (G : xG) (D : xD) (S : xS) (V : State) (c : xC) (cell : Cell) : Prop :=
  (c.1.1 % 2 = 1 → c.1.1 / 2 < G.2.2.1.length ∧ V.isArrayOf cell (xat G (c.1.1 / 2)) ∧ cell.vm ≠ .unknown ∧ cell.slots.size = c.1.2.1 ∧ c.1.2.1 < 2147483648 ∧ ∀ j, j < c.1.2.1 → ∃ v, cell.slots[j]? = some v ∧ RV S (cget c j) v) ∧
  (c.1.1 % 2 = 0 → ∀ k, xg G.2.1 (c.1.1 / 2) = some k → cell.cls = D.1 (c.1.1 / 2) ∧ cell.vm ≠ .unknown ∧ cell.vm.isStatics = false ∧ ∀ j, j < k.2.2.1 → ∃ v, cell.slots[D.2.1 (c.1.1 / 2) j]? = some v ∧ RV S (cget c j) v)
/-- a new cell -/
def NC (G : xG) (D : xD) (S : xS) (V : State) (c : xC) (cell : Cell) : Prop := RC G D S V c cell ∧ cell.vm = .none ∧ (c.1.1 % 2 = 1 → cell.cls = D.2.2 (c.1.1 / 2))
def XH (G : xG) (D : xD) (S : xS) (V : State) (h : xH) (H : Heap) : Prop :=
  H.size = S.2.1 + h.1 ∧ (∀ k, k < h.1 → ∃ c cell, hget h k = some c ∧ H[S.2.1 + k]? = some cell ∧ NC G D S V c cell) ∧ (∀ q, q < S.2.1 → H[q]? = V.heap[q]?)
/-- the old cells -/
def OH (G : xG) (D : xD) (S : xS) (V : State) : Prop := ∀ j c, xold G j = some c → S.2.2 j < S.2.1 ∧ ∃ cell, V.heap[S.2.2 j]? = some cell ∧ RC G D S V c cell
theorem XH.new_at {G : xG} {D : xD} {S : xS} {V : State} {h : xH} {H : Heap} (X : XH G D S V h H) {k : Nat} {c : xC} (hk : k < h.1) (hc : hget h k = some c) : ∃ cell, H[S.2.1 + k]? = some cell ∧ NC G D S V c cell := by
  obtain ⟨c', cell, h1, h2, h3⟩ := X.2.1 k hk
  cases h1.symm.trans hc
  exact ⟨cell, h2, h3⟩
theorem XH.cell {G : xG} {D : xD} {S : xS} {V : State} {h : xH} {H : Heap} (X : XH G D S V h H) (O : OH G D S V) {a : xV} {c : xC} (hc : xcell G h a = some c) {v : Value} (hv : RV S a v) : ∃ (q : Nat) (cell : Cell), v = .ref q ∧ H[q]? = some cell ∧ RC G D S V c cell := by
  obtain ⟨t, n⟩ := a
  match t, hc, hv with
  | 1, hc, hv =>
    have hv : v = xref S.2.1 S.2.2 n := hv
    unfold xcell at hc
    dsimp only at hc
    unfold xref at hv
    by_cases h2 : n % 2 = 1
    · have hb : Nat.beq (n % 2) 1 = true := by rw [h2]; rfl
      rw [if_pos hb] at hc
      by_cases hlt : Nat.blt (n / 2) h.1 = true
      · rw [if_pos hlt] at hc
        obtain ⟨cell, e1, e2⟩ := X.new_at (blt_lt hlt) hc
        have h0 : n ≠ 0 := by omega
        rw [if_neg h0, if_pos h2] at hv
        exact ⟨_, cell, hv, e1, e2.1⟩
      · rw [if_neg hlt] at hc; cases hc
    · have hb : ¬ Nat.beq (n % 2) 1 = true := fun q => h2 (Nat.eq_of_beq_eq_true q)
      rw [if_neg hb] at hc
      by_cases h0 : n = 0
      · rw [if_pos (by rw [h0]; rfl)] at hc; cases hc
      · rw [if_neg (fun q => h0 (Nat.eq_of_beq_eq_true q))] at hc
        rw [if_neg h0, if_neg h2] at hv
        obtain ⟨hl, cell, e1, e2⟩ := O _ _ hc
        exact ⟨_, cell, hv, by rw [X.2.2 _ hl]; exact e1, e2⟩
  | 0, hc, _ => exact absurd hc (by unfold xcell; simp)
  | n + 2, hc, _ => exact absurd hc (by unfold xcell; simp)
theorem xnewk_spec {S : xS} {h : xH} {a : xV} {k : Nat} {v : Value} (hk : xnewk h a = some k) (hv : RV S a v) : k < h.1 ∧ v = .ref (S.2.1 + k) := by
  obtain ⟨t, n⟩ := a
  match t, hk, hv with
  | 1, hk, hv =>
    have hv : v = xref S.2.1 S.2.2 n := hv
    unfold xnewk at hk
    dsimp only at hk
    by_cases hc : (Nat.beq (n % 2) 1 && Nat.blt (n / 2) h.1) = true
    · rw [if_pos hc] at hk
      have hc' := hc
      rw [Bool.and_eq_true] at hc'
      have h2 : n % 2 = 1 := Nat.eq_of_beq_eq_true hc'.1
      cases hk
      refine ⟨blt_lt hc'.2, ?_⟩
      rw [hv]; unfold xref
      rw [if_neg (by omega), if_pos h2]
    · rw [if_neg hc] at hk; cases hk
  | 0, hk, _ => exact absurd hk (by unfold xnewk; simp)
  | n + 2, hk, _ => exact absurd hk (by unfold xnewk; simp)
/-- one place of one new cell is written -/
theorem XH.set {G : xG} {D : xD} {S : xS} {V : State} {h : xH} {H H' : Heap} (X : XH G D S V h H) {k : Nat} {c : xC} {cell : Cell} (hk : k < h.1) (hN : NC G D S V c cell) (h1 : H'[S.2.1 + k]? = some cell) (h2 : H'.size = H.size) (h3 : ∀ q, q ≠ S.2.1 + k → H'[q]? = H[q]?) : XH G D S V (hset h k c) H' := by
  refine ⟨h2.trans X.1, fun j hj => ?_, fun q hq => ?_⟩
  · by_cases e : j = k
    · subst e
      exact ⟨c, cell, hset_self _ _ _, h1, hN⟩
    · obtain ⟨c', cell', a1, a2, a3⟩ := X.2.1 j hj
      exact ⟨c', cell', hset_ne _ e a1, by rw [h3 _ (by omega)]; exact a2, a3⟩
  · rw [h3 _ (by omega)]; exact X.2.2 q hq
/-- a cell is made -/
theorem XH.new {G : xG} {D : xD} {S : xS} {V : State} {h : xH} {H : Heap} (X : XH G D S V h H) {n : Nat} {c : xC} {cell : Cell} (hN : NC G D S V c cell) : XH G D S V (hnew h n c) (H.push cell) := by
  have hs : H.size = S.2.1 + h.1 := X.1
  have hn : (hnew h n c).1 = h.1 + 1 := by rw [hnew_eq]
  refine ⟨by rw [Array.size_push, hs, hn]; omega, fun j hj => ?_, fun q hq => ?_⟩
  · by_cases e : j = h.1
    · subst e
      refine ⟨c, cell, hnew_self _ _ _, ?_, hN⟩
      rw [← hs]; simp
    · have hj' : j < h.1 := by omega
      obtain ⟨c', cell', a1, a2, a3⟩ := X.2.1 j hj'
      refine ⟨c', cell', hnew_ne _ e a1, ?_, a3⟩
      rw [Array.getElem?_push_lt (by omega)]
      rw [← a2, Array.getElem?_eq_getElem (by omega)]
  · rw [Array.getElem?_push_lt (by omega), ← X.2.2 q hq, Array.getElem?_eq_getElem (by omega)]
