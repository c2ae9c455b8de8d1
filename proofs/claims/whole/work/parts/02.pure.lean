/-- how many stacked values a part takes -/
def sf_ar (x : Int32) : Nat := if x = 0 ∨ x = 1 then 0 else if x = 2 then 1 else 2
/-- the height of the stack after i parts -/
def sf_H (kd : Nat → Int32) : Nat → Nat
  | 0 => 0
  | i + 1 => sf_H kd i + 1 - sf_ar (kd i)
/-- the end of the k-th element (the first k elements together) after i parts -/
def sf_E (kd : Nat → Int32) : Nat → Nat → Nat
  | 0, _ => 0
  | i + 1, k => if k < sf_H kd (i + 1) then sf_E kd i k else i + 1
theorem sf_ar0 : sf_ar 0 = 0 := by decide
theorem sf_ar1 : sf_ar 1 = 0 := by decide
theorem sf_ar2 : sf_ar 2 = 1 := by decide
theorem sf_ar3 : ∀ t, t < 3 → sf_ar (nI (3 + t)) = 2 := by decide
theorem sf_H_0 (kd : Nat → Int32) : sf_H kd 0 = 0 := rfl
theorem sf_H_s (kd : Nat → Int32) (i : Nat) : sf_H kd (i + 1) = sf_H kd i + 1 - sf_ar (kd i) := rfl
theorem sf_E_0 (kd : Nat → Int32) (k : Nat) : sf_E kd 0 k = 0 := rfl
theorem sf_E_lt {kd : Nat → Int32} {i k : Nat} (h : k < sf_H kd (i + 1)) : sf_E kd (i + 1) k = sf_E kd i k := if_pos h
theorem sf_E_ge {kd : Nat → Int32} {i k : Nat} (h : ¬ k < sf_H kd (i + 1)) : sf_E kd (i + 1) k = i + 1 := if_neg h
theorem sf_E_top (kd : Nat → Int32) (i : Nat) : sf_E kd i (sf_H kd i) = i := by
  cases i with
  | zero => rfl
  | succ i => exact sf_E_ge (Nat.lt_irrefl _)
theorem sf_E_le (kd : Nat → Int32) : ∀ i k, sf_E kd i k ≤ i := by
  intro i
  induction i with
  | zero => intro k; exact Nat.le_refl 0
  | succ i ih =>
    intro k
    by_cases h : k < sf_H kd (i + 1)
    · rw [sf_E_lt h]; have := ih k; omega
    · rw [sf_E_ge h]; omega
theorem sf_E_step (kd : Nat → Int32) : ∀ i k, k < sf_H kd i → sf_E kd i k < sf_E kd i (k + 1) := by
  intro i
  induction i with
  | zero => intro k h; exact absurd h (Nat.not_lt_zero k)
  | succ i ih =>
    intro k h
    rw [sf_E_lt h]
    by_cases h2 : k + 1 < sf_H kd (i + 1)
    · rw [sf_E_lt h2]; rw [sf_H_s] at h2; exact ih k (by omega)
    · rw [sf_E_ge h2]; have := sf_E_le kd i k; omega
theorem sf_E_zero (kd : Nat → Int32) (hv : ∀ i, 0 < sf_H kd (i + 1)) : ∀ i, sf_E kd i 0 = 0 := by
  intro i
  induction i with
  | zero => rfl
  | succ i ih => rw [sf_E_lt (hv i), ih]
/-- the stack as it was when its k-th element had been closed -/
theorem sf_E_back (kd : Nat → Int32) : ∀ n k, k ≤ sf_H kd n → sf_H kd (sf_E kd n k) = k ∧ ∀ j, j ≤ k → sf_E kd (sf_E kd n k) j = sf_E kd n j := by
  intro n
  induction n with
  | zero =>
    intro k h
    have hk : k = 0 := Nat.le_zero.mp h
    subst hk
    exact ⟨rfl, fun j _ => rfl⟩
  | succ n ih =>
    intro k h
    by_cases h2 : k < sf_H kd (n + 1)
    · rw [sf_E_lt h2]
      have h3 := h2
      rw [sf_H_s] at h3
      obtain ⟨a, b⟩ := ih k (by omega)
      refine ⟨a, fun j hj => ?_⟩
      rw [b j hj, sf_E_lt (by omega)]
    · have e : k = sf_H kd (n + 1) := by omega
      rw [sf_E_ge h2]
      exact ⟨e.symm, fun j _ => rfl⟩
theorem sf_H_cg {kd kd' : Nat → Int32} : ∀ n, (∀ i, i < n → kd' i = kd i) → sf_H kd' n = sf_H kd n := by
  intro n
  induction n with
  | zero => intro _; rfl
  | succ n ih =>
    intro h
    rw [sf_H_s, sf_H_s, h n (by omega), ih (fun i hi => h i (by omega))]
theorem sf_E_cg {kd kd' : Nat → Int32} : ∀ n, (∀ i, i < n → kd' i = kd i) → ∀ k, sf_E kd' n k = sf_E kd n k := by
  intro n
  induction n with
  | zero => intro _ k; rfl
  | succ n ih =>
    intro h k
    have e : sf_H kd' (n + 1) = sf_H kd (n + 1) := sf_H_cg (n + 1) h
    by_cases h2 : k < sf_H kd (n + 1)
    · rw [sf_E_lt h2, sf_E_lt (e ▸ h2), ih (fun i hi => h i (by omega))]
    · rw [sf_E_ge h2, sf_E_ge (e ▸ h2)]
/-- the common length of an index in two formulas: 0 absent, -1 several -/
def sf_cs (x y : Int32) : Int32 := if x = 0 ∨ x = y then y else if y = 0 then x else -1
theorem sf_cs_0l (y : Int32) : sf_cs 0 y = y := if_pos (Or.inl rfl)
theorem sf_cs_0r (x : Int32) : sf_cs x 0 = x := by
  unfold sf_cs
  by_cases h : x = 0
  · rw [if_pos (Or.inl h), h]
  · rw [if_neg (fun z => z.elim h h), if_pos rfl]
theorem sf_cs_eq (x : Int32) : sf_cs x x = x := if_pos (Or.inr rfl)
theorem sf_cs_ne {x y : Int32} (hx : x ≠ 0) (hy : y ≠ 0) (h : x ≠ y) : sf_cs x y = -1 := by
  unfold sf_cs
  rw [if_neg (fun z => z.elim hx h), if_neg hy]
theorem sf_cs_m1l (y : Int32) : sf_cs (-1) y = -1 := by
  by_cases h0 : y = 0
  · rw [h0, sf_cs_0r]
  · by_cases h1 : (-1 : Int32) = y
    · rw [← h1, sf_cs_eq]
    · exact sf_cs_ne (by decide) h0 h1
theorem sf_cs_m1r (x : Int32) : sf_cs x (-1) = -1 := by
  by_cases h0 : x = 0
  · rw [h0, sf_cs_0l]
  · by_cases h1 : x = -1
    · rw [h1, sf_cs_eq]
    · exact sf_cs_ne h0 (by decide) h1
theorem sf_cs_as (x y z : Int32) : sf_cs (sf_cs x y) z = sf_cs x (sf_cs y z) := by
  by_cases hx : x = 0
  · rw [hx, sf_cs_0l, sf_cs_0l]
  by_cases hy : y = 0
  · rw [hy, sf_cs_0l, sf_cs_0r]
  by_cases hz : z = 0
  · rw [hz, sf_cs_0r, sf_cs_0r]
  by_cases hxy : x = y
  · subst hxy
    rw [sf_cs_eq]
    by_cases hxz : x = z
    · subst hxz
      rw [sf_cs_eq, sf_cs_eq]
    · rw [sf_cs_ne hx hz hxz, sf_cs_m1r]
  · rw [sf_cs_ne hx hy hxy, sf_cs_m1l]
    by_cases hyz : y = z
    · subst hyz
      rw [sf_cs_eq, sf_cs_ne hx hy hxy]
    · rw [sf_cs_ne hy hz hyz, sf_cs_m1r]
/-- the common length over m parts from lo on -/
def sf_fs (cb : Nat → Int32) (lo : Nat) : Nat → Int32
  | 0 => 0
  | m + 1 => sf_cs (sf_fs cb lo m) (cb (lo + m))
theorem sf_fs_0 (cb : Nat → Int32) (lo : Nat) : sf_fs cb lo 0 = 0 := rfl
theorem sf_fs_s (cb : Nat → Int32) (lo m : Nat) : sf_fs cb lo (m + 1) = sf_cs (sf_fs cb lo m) (cb (lo + m)) := rfl
theorem sf_fs_add (cb : Nat → Int32) (lo m : Nat) : ∀ l, sf_fs cb lo (m + l) = sf_cs (sf_fs cb lo m) (sf_fs cb (lo + m) l) := by
  intro l
  induction l with
  | zero => rw [Nat.add_zero, sf_fs_0, sf_cs_0r]
  | succ l ih => rw [← Nat.add_assoc, sf_fs_s, ih, sf_fs_s, sf_cs_as, Nat.add_assoc]
theorem sf_fs_cg {cb cb' : Nat → Int32} {lo : Nat} : ∀ m, (∀ i, lo ≤ i → i < lo + m → cb' i = cb i) → sf_fs cb' lo m = sf_fs cb lo m := by
  intro m
  induction m with
  | zero => intro _; rfl
  | succ m ih =>
    intro h
    rw [sf_fs_s, sf_fs_s, ih (fun i h1 h2 => h i h1 (by omega)), h (lo + m) (by omega) (by omega)]
def sf_ok (x : Int32) : Prop := x = -1 ∨ ∃ k : Nat, k ≤ 6 ∧ x = nI k
theorem sf_ok_0 : sf_ok 0 := Or.inr ⟨0, by omega, rfl⟩
theorem sf_ok_cs {x y : Int32} (hx : sf_ok x) (hy : sf_ok y) : sf_ok (sf_cs x y) := by
  unfold sf_cs
  by_cases h : x = 0 ∨ x = y
  · rw [if_pos h]; exact hy
  · rw [if_neg h]
    by_cases h2 : y = 0
    · rw [if_pos h2]; exact hx
    · rw [if_neg h2]; exact Or.inl rfl
theorem sf_ok_fs {cb : Nat → Int32} {lo : Nat} : ∀ m, (∀ i, lo ≤ i → i < lo + m → sf_ok (cb i)) → sf_ok (sf_fs cb lo m) := by
  intro m
  induction m with
  | zero => intro _; exact sf_ok_0
  | succ m ih =>
    intro h
    rw [sf_fs_s]
    exact sf_ok_cs (ih (fun i h1 h2 => h i h1 (by omega))) (h (lo + m) (by omega) (by omega))
