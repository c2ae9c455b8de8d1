theorem sm_0 (f : Nat → Int32) : bx_sum f 0 = 0 := rfl
theorem sm_s (f : Nat → Int32) (n : Nat) : bx_sum f (n + 1) = bx_sum f n + f n := rfl
theorem sm_cg {f g : Nat → Int32} : ∀ n, (∀ i, i < n → f i = g i) → bx_sum f n = bx_sum g n := by
  intro n
  induction n with
  | zero => intro _; rfl
  | succ n ih => intro h; rw [sm_s, sm_s, ih (fun i hi => h i (by omega)), h n (by omega)]
theorem sm_add (f : Nat → Int32) (m : Nat) : ∀ l, bx_sum f (m + l) = bx_sum f m + bx_sum (fun i => f (m + i)) l := by
  intro l
  induction l with
  | zero => rw [Nat.add_zero, sm_0, Int32.add_zero]
  | succ l ih => rw [← Nat.add_assoc, sm_s, ih, sm_s, Int32.add_assoc]
theorem sm_zero {f : Nat → Int32} : ∀ n, (∀ i, i < n → f i = 0) → bx_sum f n = 0 := by
  intro n
  induction n with
  | zero => intro _; rfl
  | succ n ih => intro h; rw [sm_s, ih (fun i hi => h i (by omega)), h n (by omega)]; rfl
theorem sm_cut {f : Nat → Int32} {m n : Nat} (h : m ≤ n) (hz : ∀ i, m ≤ i → i < n → f i = 0) : bx_sum f n = bx_sum f m := by
  obtain ⟨l, rfl⟩ : ∃ l, n = m + l := ⟨n - m, by omega⟩
  rw [sm_add, sm_zero l (fun i hi => hz (m + i) (by omega) (by omega)), Int32.add_zero]
theorem sm_six (f : Nat → Int32) : ∀ n, bx_sum f (6 * n) = bx_sum (fun i => bx_sum (fun j => f (6 * i + j)) 6) n := by
  intro n
  induction n with
  | zero => rfl
  | succ n ih =>
    rw [Nat.mul_succ, sm_add, ih]
    rfl
theorem sm_block {f : Nat → Int32} {h w : Nat} (hh : h ≤ 6) (hw : w ≤ 6) (hz : ∀ i j, i < 6 → j < 6 → (h ≤ i ∨ w ≤ j) → f (6 * i + j) = 0) : bx_sum f 36 = bx_sum (fun i => bx_sum (fun j => f (6 * i + j)) w) h := by
  rw [show (36 : Nat) = 6 * 6 from rfl, sm_six]
  rw [sm_cut hh (fun i h1 h2 => sm_zero 6 (fun j hj => hz i j h2 hj (Or.inl h1)))]
  exact sm_cg h (fun i hi => sm_cut hw (fun j h1 h2 => hz i j (by omega) h2 (Or.inr h1)))
theorem sm_nat {f : Nat → Int32} : ∀ n, (∀ i, i < n → f i = 0 ∨ f i = 1) → ∃ m : Nat, m ≤ n ∧ bx_sum f n = nI m := by
  intro n
  induction n with
  | zero => intro _; exact ⟨0, Nat.le_refl 0, rfl⟩
  | succ n ih =>
    intro h
    obtain ⟨m, hm, e⟩ := ih (fun i hi => h i (by omega))
    rcases h n (by omega) with z | z
    · exact ⟨m, by omega, by rw [sm_s, e, z, Int32.add_zero]⟩
    · exact ⟨m + 1, by omega, by rw [sm_s, e, z, nI_1]⟩
/-- 1 where a number stands -/
def sf_nz (x : Int32) : Int32 := if x = 0 then 0 else 1
theorem sf_nz0 {x : Int32} (h : x = 0) : sf_nz x = 0 := if_pos h
theorem sf_nz1 {x : Int32} (h : ¬ x = 0) : sf_nz x = 1 := if_neg h
theorem sf_nz01 (x : Int32) : sf_nz x = 0 ∨ sf_nz x = 1 := by
  by_cases h : x = 0
  · exact Or.inl (sf_nz0 h)
  · exact Or.inr (sf_nz1 h)
theorem sf_xi (r i j : Nat) : nI r * 36 + nI i * 6 + nI j = nI (36 * r + 6 * i + j) := by
  show nI r * nI 36 + nI i * nI 6 + nI j = _
  rw [pk_mul, pk_mul, nI_add, nI_add]
  exact congrArg nI (by omega)
theorem sf_yi (r i j : Nat) : 36 * nI r + 6 * nI i + nI j = nI (36 * r + 6 * i + j) := by
  show nI 36 * nI r + nI 6 * nI i + nI j = _
  rw [pk_mul, pk_mul, nI_add, nI_add]
theorem sf_xp (r p : Nat) : nI r * 36 + nI p = nI (36 * r + p) := by
  show nI r * nI 36 + nI p = _
  rw [pk_mul, nI_add]
  exact congrArg nI (by omega)
theorem sf_yp (r p : Nat) : 36 * nI r + nI p = nI (36 * r + p) := by
  show nI 36 * nI r + nI p = _
  rw [pk_mul, nI_add]
/-- m cells from b on have been written with g, the others stand as in N -/
def sf_blk (b m : Nat) (g N A : Nat → Int32) : Prop := (∀ i, i < m → A (b + i) = g i) ∧ (∀ k, (k < b ∨ b + m ≤ k) → A k = N k)
theorem sf_blk_0 (b : Nat) (g N : Nat → Int32) : sf_blk b 0 g N N := ⟨fun i h => absurd h (Nat.not_lt_zero i), fun _ _ => rfl⟩
theorem sf_blk_s {b m : Nat} {g N A : Nat → Int32} {x : Int32} (h : sf_blk b m g N A) (hx : x = g m) : sf_blk b (m + 1) g N (upd A (b + m) x) := by
  refine ⟨fun i hi => ?_, fun k hk => ?_⟩
  · by_cases e : i = m
    · subst e; rw [pk_us]; exact hx
    · rw [pk_un (by omega)]; exact h.1 i (by omega)
  · rw [pk_un (by omega)]; exact h.2 k (by omega)
/-- the swaps of the lines before i, and in line i those before j -/
def sf_sw (r i j : Nat) (N A : Nat → Int32) : Prop :=
  (∀ a b, a < 6 → b < 6 → ((a < i ∧ b < i) ∨ (a = i ∧ b < j) ∨ (b = i ∧ a < j)) → A (36 * r + 6 * a + b) = N (36 * r + 6 * b + a)) ∧
  (∀ a b, a < 6 → b < 6 → ¬ ((a < i ∧ b < i) ∨ (a = i ∧ b < j) ∨ (b = i ∧ a < j)) → A (36 * r + 6 * a + b) = N (36 * r + 6 * a + b)) ∧
  (∀ k, (k < 36 * r ∨ 36 * r + 36 ≤ k) → A k = N k)
theorem sf_sw_0 (r : Nat) (N : Nat → Int32) : sf_sw r 0 0 N N :=
  ⟨fun a b _ _ h => absurd h (by omega), fun _ _ _ _ _ => rfl, fun _ _ => rfl⟩
theorem sf_sw_n {r i : Nat} {N A : Nat → Int32} (h : sf_sw r i i N A) : sf_sw r (i + 1) 0 N A := by
  refine ⟨fun a b ha hb hc => ?_, fun a b ha hb hc => h.2.1 a b ha hb (by omega), h.2.2⟩
  by_cases e : a = i ∧ b = i
  · rw [e.1, e.2]
    exact h.2.1 i i (by omega) (by omega) (by omega)
  · exact h.1 a b ha hb (by omega)
theorem sf_sw_s {r i j : Nat} {N A : Nat → Int32} (h : sf_sw r i j N A) (hj : j < i) (hi : i < 6) : sf_sw r i (j + 1) N (upd (upd A (36 * r + 6 * i + j) (A (36 * r + 6 * j + i))) (36 * r + 6 * j + i) (A (36 * r + 6 * i + j))) := by
  have e1 : A (36 * r + 6 * j + i) = N (36 * r + 6 * j + i) := h.2.1 j i (by omega) hi (by omega)
  have e2 : A (36 * r + 6 * i + j) = N (36 * r + 6 * i + j) := h.2.1 i j hi (by omega) (by omega)
  rw [e1, e2]
  refine ⟨fun a b ha hb hc => ?_, fun a b ha hb hc => ?_, fun k hk => ?_⟩
  · by_cases c1 : a = j ∧ b = i
    · obtain ⟨rfl, rfl⟩ := c1
      rw [pk_us]
    · rw [pk_un (by omega)]
      by_cases c2 : a = i ∧ b = j
      · obtain ⟨rfl, rfl⟩ := c2
        rw [pk_us]
      · rw [pk_un (by omega)]
        exact h.1 a b ha hb (by omega)
  · rw [pk_un (by omega), pk_un (by omega)]
    exact h.2.1 a b ha hb (by omega)
  · rw [pk_un (by omega), pk_un (by omega)]
    exact h.2.2 k hk
theorem sf_sw_e {r : Nat} {N A : Nat → Int32} (h : sf_sw r 6 0 N A) : (∀ a b, a < 6 → b < 6 → A (36 * r + 6 * a + b) = N (36 * r + 6 * b + a)) ∧ (∀ k, (k < 36 * r ∨ 36 * r + 36 ≤ k) → A k = N k) :=
  ⟨fun a b ha hb => h.1 a b ha hb (by omega), h.2.2⟩
/-- the first m cells written across -/
def sf_tr (r m : Nat) (g N A : Nat → Int32) : Prop := (∀ k, k < m → A (36 * r + 6 * (k % 6) + k / 6) = g k) ∧ (∀ k, (k < 36 * r ∨ 36 * r + 36 ≤ k) → A k = N k)
theorem sf_tr_0 (r : Nat) (g N : Nat → Int32) : sf_tr r 0 g N N := ⟨fun i h => absurd h (Nat.not_lt_zero i), fun _ _ => rfl⟩
theorem sf_tr_s {r m : Nat} {g N A : Nat → Int32} {x : Int32} (h : sf_tr r m g N A) (hm : m < 36) (hx : x = g m) : sf_tr r (m + 1) g N (upd A (36 * r + 6 * (m % 6) + m / 6) x) := by
  refine ⟨fun k hk => ?_, fun k hk => ?_⟩
  · by_cases e : k = m
    · subst e; rw [pk_us]; exact hx
    · rw [pk_un (by omega)]; exact h.1 k (by omega)
  · rw [pk_un (by omega)]; exact h.2 k hk
theorem sf_tr_e {r : Nat} {g N A : Nat → Int32} (h : sf_tr r 36 g N A) (a b : Nat) (ha : a < 6) (hb : b < 6) : A (36 * r + 6 * a + b) = g (6 * b + a) := by
  have := h.1 (6 * b + a) (by omega)
  rw [show (6 * b + a) % 6 = a by omega, show (6 * b + a) / 6 = b by omega] at this
  exact this
