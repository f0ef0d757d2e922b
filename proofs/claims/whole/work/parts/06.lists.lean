/-! LISTS AND CELLS OF THE EXECUTOR -/
theorem xg_nil {α : Type} (n : Nat) : xg ([] : List α) n = none := rfl
theorem xg_zero {α : Type} (a : α) (l : List α) : xg (a :: l) 0 = some a := rfl
theorem xg_succ {α : Type} (a : α) (l : List α) (n : Nat) : xg (a :: l) (n + 1) = xg l n := rfl
theorem xg_eq {α : Type} : ∀ (l : List α) (n : Nat), xg l n = l[n]?
  | [], _ => by simp [xg_nil]
  | a :: l, 0 => by simp [xg_zero]
  | a :: l, n + 1 => by rw [xg_succ, xg_eq l n]; simp
theorem xgd_nil {α : Type} (d : α) (n : Nat) : xgd d ([] : List α) n = d := rfl
theorem xgd_zero {α : Type} (d a : α) (l : List α) : xgd d (a :: l) 0 = a := rfl
theorem xgd_succ {α : Type} (d a : α) (l : List α) (n : Nat) : xgd d (a :: l) (n + 1) = xgd d l n := rfl
theorem xpad_zero {α : Type} (d v : α) : xpad d v 0 = [v] := rfl
theorem xpad_succ {α : Type} (d v : α) (n : Nat) : xpad d v (n + 1) = d :: xpad d v n := rfl
theorem xs_nil {α : Type} (d v : α) (n : Nat) : xs d v [] n = xpad d v n := rfl
theorem xs_zero {α : Type} (d v a : α) (l : List α) : xs d v (a :: l) 0 = v :: l := rfl
theorem xs_succ {α : Type} (d v a : α) (l : List α) (n : Nat) : xs d v (a :: l) (n + 1) = a :: xs d v l n := rfl
theorem xgd_xpad {α : Type} (d v : α) : ∀ n i : Nat, xgd d (xpad d v n) i = if i = n then v else d
  | 0, 0 => rfl
  | 0, i + 1 => by simp [xpad_zero, xgd_succ, xgd_nil]
  | n + 1, 0 => by simp [xpad_succ, xgd_zero]
  | n + 1, i + 1 => by rw [xpad_succ, xgd_succ, xgd_xpad d v n i]; simp
theorem xgd_xs {α : Type} (d v : α) : ∀ (l : List α) (n i : Nat), xgd d (xs d v l n) i = if i = n then v else xgd d l i
  | [], n, i => by rw [xs_nil, xgd_xpad, xgd_nil]
  | a :: l, 0, 0 => rfl
  | a :: l, 0, i + 1 => by simp [xs_zero, xgd_succ]
  | a :: l, n + 1, 0 => by simp [xs_succ, xgd_zero]
  | a :: l, n + 1, i + 1 => by rw [xs_succ, xgd_succ, xgd_succ, xgd_xs d v l n i]; simp
theorem xg_xpad_self {α : Type} (d v : α) : ∀ n : Nat, xg (xpad d v n) n = some v
  | 0 => rfl
  | n + 1 => by rw [xpad_succ, xg_succ]; exact xg_xpad_self d v n
theorem xg_xs_self {α : Type} (d v : α) : ∀ (l : List α) (n : Nat), xg (xs d v l n) n = some v
  | [], n => by rw [xs_nil]; exact xg_xpad_self d v n
  | a :: l, 0 => rfl
  | a :: l, n + 1 => by rw [xs_succ, xg_succ]; exact xg_xs_self d v l n
theorem xg_xs_ne {α : Type} (d v : α) : ∀ (l : List α) (n i : Nat) (x : α), i ≠ n → xg l i = some x → xg (xs d v l n) i = some x
  | [], n, i, x, _, h => by simp [xg_nil] at h
  | a :: l, 0, 0, x, hne, h => absurd rfl hne
  | a :: l, 0, i + 1, x, _, h => by rw [xs_zero, xg_succ]; rw [xg_succ] at h; exact h
  | a :: l, n + 1, 0, x, _, h => by rw [xs_succ, xg_zero]; rw [xg_zero] at h; exact h
  | a :: l, n + 1, i + 1, x, hne, h => by rw [xs_succ, xg_succ]; rw [xg_succ] at h; exact xg_xs_ne d v l n i x (fun q => hne (by rw [q])) h
theorem xforce_eq {β : Type} (n : Nat) (k : Nat → β) : xforce n k = k n := by cases n <;> rfl
theorem hput_self (d : List (List (List xC))) (k : Nat) (c : xC) (a b : Nat) : hget (a, b, hput d k c) k = some c := by
  unfold hget hput
  simp only [xgd_xs, if_pos]
  exact xg_xs_self _ _ _ _
theorem hput_ne (d : List (List (List xC))) (k j : Nat) (c x : xC) (a b a' b' : Nat) (hne : j ≠ k) (h : hget (a', b', d) j = some x) : hget (a, b, hput d k c) j = some x := by
  unfold hget at h ⊢
  unfold hput
  dsimp only at h ⊢
  rw [xgd_xs]
  by_cases h1 : j / 256 = k / 256
  · rw [if_pos h1, xgd_xs]
    by_cases h2 : j / 16 % 16 = k / 16 % 16
    · rw [if_pos h2]
      rw [h1, h2] at h
      exact xg_xs_ne _ _ _ _ _ _ (by omega) h
    · rw [if_neg h2]
      rw [h1] at h
      exact h
  · rw [if_neg h1]; exact h
theorem hget_cells (a b a' b' : Nat) (d : List (List (List xC))) (k : Nat) : hget (a, b, d) k = hget (a', b', d) k := rfl
theorem hset_self (h : xH) (k : Nat) (c : xC) : hget (hset h k c) k = some c := hput_self _ _ _ _ _
theorem hset_ne (h : xH) {k j : Nat} {c x : xC} (hne : j ≠ k) (hx : hget h j = some x) : hget (hset h k c) j = some x := hput_ne _ _ _ _ _ _ _ _ _ hne hx
theorem hnew_eq (h : xH) (n : Nat) (c : xC) : hnew h n c = (h.1 + 1, h.2.1 + n, hput h.2.2 h.1 c) := by
  unfold hnew; rw [xforce_eq, xforce_eq]
theorem hnew_self (h : xH) (n : Nat) (c : xC) : hget (hnew h n c) h.1 = some c := by rw [hnew_eq]; exact hput_self _ _ _ _ _
theorem hnew_ne (h : xH) {n j : Nat} {c x : xC} (hne : j ≠ h.1) (hx : hget h j = some x) : hget (hnew h n c) j = some x := by rw [hnew_eq]; exact hput_ne _ _ _ _ _ _ _ _ _ hne hx
theorem cget_cset (c : xC) (i j : Nat) (v : xV) : cget (cset c i v) j = if j = i then v else cget c j := by
  unfold cget cset
  dsimp only
  rw [xgd_xs]
  by_cases h1 : j / 16 = i / 16
  · rw [if_pos h1, xgd_xs]
    by_cases h2 : j % 16 = i % 16
    · rw [if_pos h2, if_pos (by omega)]
    · rw [if_neg h2, if_neg (by omega), h1]
  · rw [if_neg h1, if_neg (by intro q; exact h1 (by rw [q]))]
theorem cset_hd (c : xC) (i : Nat) (v : xV) : (cset c i v).1 = c.1 := rfl
