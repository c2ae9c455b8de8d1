/-- the component's values are the reference's at the ends of the elements -/
def sf_V (kd : Nat → Int32) (i : Nat) (xv yv : Nat → Int32) : Prop := ∀ k, k < sf_H kd i → xv k = yv (sf_E kd i (k + 1) - 1)
theorem sf_V_s {kd : Nat → Int32} {i : Nat} {xv yv : Nat → Int32} (hv : sf_V kd i xv yv) (ht : sf_ar (kd i) ≤ sf_H kd i) (x : Int32) : sf_V kd (i + 1) (upd xv (sf_H kd i - sf_ar (kd i)) x) (upd yv i x) := by
  intro k hk
  have eH := sf_H_s kd i
  by_cases e : k = sf_H kd i - sf_ar (kd i)
  · rw [e, pk_us, sf_E_ge (by omega), Nat.add_sub_cancel, pk_us]
  · have h1 := sf_E_step kd i k (by omega)
    have h2 := sf_E_le kd i (k + 1)
    rw [pk_un e, sf_E_lt (by omega), pk_un (by omega)]
    exact hv k (by omega)
theorem sf_V_top {kd : Nat → Int32} {i : Nat} {xv yv : Nat → Int32} (hv : sf_V kd i xv yv) (h : 1 ≤ sf_H kd i) : xv (sf_H kd i - 1) = yv (i - 1) := by
  rw [hv _ (by omega), show sf_H kd i - 1 + 1 = sf_H kd i by omega, sf_E_top]
theorem sf_V_2 {kd : Nat → Int32} {i : Nat} {xv yv : Nat → Int32} (hv : sf_V kd i xv yv) (h : 2 ≤ sf_H kd i) : xv (sf_H kd i - 2) = yv (sf_E kd i (sf_H kd i - 1) - 1) := by
  rw [hv _ (by omega), show sf_H kd i - 2 + 1 = sf_H kd i - 1 by omega]
theorem sf_V_0 (kd xv yv : Nat → Int32) : sf_V kd 0 xv yv := fun k h => absurd h (Nat.not_lt_zero k)
theorem sf_szi {n c : Nat} {xk xa ykd ynu ysz : Nat → Int32} (hp : ∀ i, i < n → sf_Pt c xk xa ykd ynu ysz i) {i : Nat} (hi : i ≤ n) (h : 2 ≤ sf_H ykd i) : 1 ≤ i ∧ 1 ≤ sf_E ykd i (sf_H ykd i - 1) ∧ sf_E ykd i (sf_H ykd i - 1) < i ∧ ysz (i - 1) = nI (i - sf_E ykd i (sf_H ykd i - 1)) := by
  have h0 : i ≠ 0 := by
    intro e
    rw [e, sf_H_0] at h
    omega
  have h1 := sf_E_step ykd i (sf_H ykd i - 1) (by omega)
  have h2 := sf_E_step ykd i (sf_H ykd i - 2) (by omega)
  rw [show sf_H ykd i - 1 + 1 = sf_H ykd i by omega, sf_E_top] at h1
  rw [show sf_H ykd i - 2 + 1 = sf_H ykd i - 1 by omega] at h2
  refine ⟨by omega, by omega, h1, ?_⟩
  have := (hp (i - 1) (by omega)).2.2.1
  rw [show i - 1 + 1 = i by omega] at this
  exact this
theorem sf_H6 {n c : Nat} {xk xa ykd ynu ysz : Nat → Int32} (hp : ∀ i, i < n → sf_Pt c xk xa ykd ynu ysz i) {i : Nat} (hi : i ≤ n) : sf_H ykd i ≤ 6 := by
  cases i with
  | zero => exact Nat.zero_le 6
  | succ i => exact (hp i (by omega)).2.1
/-- an index's number, 0 for none -/
def sf_at (x : Int32) (t : Nat → Nat) : Nat := if x = -1 then 0 else t x.toNatClampNeg
theorem sf_at_n (t : Nat → Nat) : sf_at (-1) t = 0 := if_pos rfl
theorem sf_at_p (t : Nat → Nat) : ∀ {p : Nat}, p < 3 → sf_at (nI p) t = t p := by
  intro p hp
  have h : ∀ p, p < 3 → ¬ nI p = -1 := by decide
  unfold sf_at
  rw [if_neg (h p hp), nI_clamp (by omega)]
theorem sf_at_lt {x : Int32} {t : Nat → Nat} (hx : sf_id x) (ht : ∀ p, p < 3 → t p < 6) : sf_at x t < 6 := by
  rcases hx with rfl | ⟨p, hp, rfl⟩
  · rw [sf_at_n]; omega
  · rw [sf_at_p t hp]; exact ht p hp
/-- what a line gives to the room -/
def sf_tm (f : Nat) (L own : Int32) : Int32 := if f % 2 = 1 then own else if (0 < own ∨ f / 2 % 2 = 0) then L else 0
