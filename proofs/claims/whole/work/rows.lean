section
theorem pk_us {f : Nat → Int32} {k : Nat} {x : Int32} : upd f k x k = x := if_pos rfl
theorem pk_un {f : Nat → Int32} {k j : Nat} {x : Int32} (h : j ≠ k) : upd f k x j = f j := if_neg h
theorem pk_sub {a b : Nat} (h : b ≤ a) : nI a - nI b = nI (a - b) := by
  obtain ⟨c, rfl⟩ : ∃ c, a = c + b := ⟨a - b, by omega⟩
  rw [← nI_add, Int32.add_sub_cancel, Nat.add_sub_cancel]
theorem pk_m1 (n : Nat) : nI (n + 1) + (-1) = nI n := by
  rw [← nI_1, Int32.add_assoc, show (1 : Int32) + (-1) = 0 from rfl, Int32.add_zero]
theorem pk_mul (a b : Nat) : nI a * nI b = nI (a * b) := (Int32.ofNat_mul a b).symm
theorem pk_div {a d : Nat} (ha : a < 2 ^ 31) (h0 : 0 < d) (hd : d < 2 ^ 31) : nI a / nI d = nI (a / d) := by
  apply Int32.toInt_inj.mp
  rw [lg_idiv_nonneg (by rw [nI_toInt ha]; omega) (by rw [nI_toInt hd]; omega), nI_toInt ha, nI_toInt hd, nI_toInt (Nat.lt_of_le_of_lt (Nat.div_le_self a d) ha)]
  first | rfl | exact (Int.natCast_ediv _ _).symm
theorem pk_rem {a d : Nat} (ha : a < 2 ^ 31) (h0 : 0 < d) (hd : d < 2 ^ 31) : nI a - nI a / nI d * nI d = nI (a % d) := by
  rw [pk_div ha h0 hd, pk_mul, pk_sub (Nat.div_mul_le_self a d)]
  exact congrArg nI (by have := Nat.div_add_mod' a d; omega)
theorem pk_ix (x : Int32) {n : Nat} (hn : n < 2 ^ 31) : x < 0 ∨ nI n ≤ x ∨ ∃ j : Nat, j < n ∧ x = nI j := by
  by_cases h : x < 0
  · exact Or.inl h
  · obtain ⟨j, hj, rfl⟩ := nI_of h
    by_cases h2 : j < n
    · exact Or.inr (Or.inr ⟨j, h2, rfl⟩)
    · exact Or.inr (Or.inl (nI_le (by omega) hj))
theorem pk_le {x y : Int32} {A B : Prop} (a b : Nat) (f : a ≤ b → A) (g : b < a → B) (hx : x = nI a := by rfl) (hy : y = nI b := by rfl) (ha : a < 2 ^ 31 := by omega) (hb : b < 2 ^ 31 := by omega) : (x ≤ y → A) ∧ (¬ x ≤ y → B) := by
  subst hx hy
  rw [nI_leI ha hb]
  exact ⟨f, fun z => g (by omega)⟩
theorem pk_lt {x y : Int32} {A B : Prop} (a b : Nat) (f : a < b → A) (g : b ≤ a → B) (hx : x = nI a := by rfl) (hy : y = nI b := by rfl) (ha : a < 2 ^ 31 := by omega) (hb : b < 2 ^ 31 := by omega) : (x < y → A) ∧ (¬ x < y → B) := by
  subst hx hy
  rw [nI_ltI ha hb]
  exact ⟨f, fun z => g (by omega)⟩
theorem pk_eq {x y : Int32} {A B : Prop} (a b : Nat) (f : a = b → A) (g : a ≠ b → B) (hx : x = nI a := by rfl) (hy : y = nI b := by rfl) (ha : a < 2 ^ 31 := by omega) (hb : b < 2 ^ 31 := by omega) : (x = y → A) ∧ (¬ x = y → B) := by
  subst hx hy
  rw [nI_eq ha hb]
  exact ⟨f, g⟩
theorem pk_in {x : Int32} (n N : Nat) (h : n < N) (hx : x = nI n := by rfl) (hN : N < 2 ^ 31 := by omega) : vp_in x N := by
  subst hx
  exact vp_in_nI h hN
theorem pk_cl {x : Int32} (n : Nat) (hx : x = nI n := by rfl) (h : n < 2 ^ 31 := by omega) : x.toNatClampNeg = n := by
  subst hx
  exact nI_clamp h
theorem pk_tn {n : Nat} (h : n < 2 ^ 32) : (nI n).toBitVec.toNat = n := Nat.mod_eq_of_lt h
theorem pk_and (x : Int32) {m : Int32} (k : Nat) (hm : m.toBitVec.toNat = 2 ^ k - 1) : x &&& m = nI (x.toBitVec.toNat % 2 ^ k) := by
  apply Int32.toBitVec_inj.mp
  apply BitVec.eq_of_toNat_eq
  rw [Int32.toBitVec_and, BitVec.toNat_and, hm, Nat.and_two_pow_sub_one_eq_mod]
  show _ = (BitVec.ofNat 32 _).toNat
  rw [BitVec.toNat_ofNat]
  exact (Nat.mod_eq_of_lt (Nat.lt_of_le_of_lt (Nat.mod_le _ _) x.toBitVec.isLt)).symm
theorem pk_andN {n : Nat} (h : n < 2 ^ 32) {m : Int32} (k : Nat) (hm : m.toBitVec.toNat = 2 ^ k - 1) : nI n &&& m = nI (n % 2 ^ k) := by
  rw [pk_and _ k hm, pk_tn h]
theorem pk_loop {σ : Type} (W : Nat → Nat → σ → Prop) (I : Nat → σ → Prop) (e i0 : Nat) (s : σ) (hi : i0 ≤ e) (h0 : I i0 s) (hx : ∀ n s, I e s → W (n + 1) e s)
    (hs : ∀ n i s, i < e → I i s → (∀ s', I (i + 1) s' → W n (i + 1) s') → W (n + 1) i s) : ∃ n, W n i0 s :=
  ⟨e + 1, loop_i W I e hx hs (e + 1) i0 s hi (by omega) h0⟩
theorem pk_loopD {σ : Type} (W : Nat → Nat → σ → Prop) (I : Nat → σ → Prop) (hx : ∀ n s, I 0 s → W (n + 1) 0 s)
    (hs : ∀ n i s, I (i + 1) s → (∀ s', I i s' → W n i s') → W (n + 1) (i + 1) s) : ∀ (e : Nat) (s : σ), I e s → W (e + 1) e s := by
  intro e
  induction e with
  | zero => exact fun s h => hx 0 s h
  | succ e ih => exact fun s h => hs (e + 1) e s h (fun s' h' => ih s' h')
def bx_sum (f : Nat → Int32) : Nat → Int32
  | 0 => 0
  | n + 1 => bx_sum f n + f n
theorem ek_if {c d A B : Prop} (e : c ↔ d) (f : d → A) (g : ¬ d → B) : (c → A) ∧ (¬ c → B) :=
  ⟨fun z => f (e.mp z), fun z => g (fun y => z (e.mpr y))⟩
theorem ek_v {α : Sort _} {P : α → Prop} {a b : α} (e : a = b) (h : P b) : P a := e ▸ h
theorem pk_mu {x : Int32} {L : Nat} (h0 : ¬ x < 0) (h : ¬ nI L ≤ x) (hL : L < 2 ^ 31) : ∃ j : Nat, j < L ∧ x = nI j ∧ x + 1 = nI (j + 1) ∧ x.toNatClampNeg = j ∧ L - (x + 1).toNatClampNeg < L - x.toNatClampNeg := by
  obtain ⟨j, hj, rfl⟩ := nI_of h0
  have hl : j < L := Nat.not_le.mp fun q => h (nI_le q hj)
  refine ⟨j, hl, rfl, nI_1 j, nI_clamp hj, ?_⟩
  rw [nI_1, nI_clamp (by omega), nI_clamp hj]
  omega
end
section
/-- how many stacked values a part takes -/
def sf_ar (x : Int32) : Nat := if x = 0 ∨ x = 1 then 0 else if x = 2 then 1 else 2
/-- the height of the stack after i parts -/
def sf_H (kd : Nat → Int32) : Nat → Nat
  | 0 => 0
  | i + 1 => sf_H kd i + 1 - sf_ar (kd i)
/-- the end of the k-th element (the first k elements together) after i parts -/
def sf_E (kd : Nat → Int32) : Nat → Nat → Nat
  | 0, _ => 0
  | i + 1, k => if k < sf_H kd (i + 1) then sf_E kd i k else i + 1
theorem sf_ar0 : sf_ar 0 = 0 := by decide
theorem sf_ar1 : sf_ar 1 = 0 := by decide
theorem sf_ar2 : sf_ar 2 = 1 := by decide
theorem sf_ar3 : ∀ t, t < 3 → sf_ar (nI (3 + t)) = 2 := by decide
theorem sf_H_0 (kd : Nat → Int32) : sf_H kd 0 = 0 := rfl
theorem sf_H_s (kd : Nat → Int32) (i : Nat) : sf_H kd (i + 1) = sf_H kd i + 1 - sf_ar (kd i) := rfl
theorem sf_E_0 (kd : Nat → Int32) (k : Nat) : sf_E kd 0 k = 0 := rfl
theorem sf_E_lt {kd : Nat → Int32} {i k : Nat} (h : k < sf_H kd (i + 1)) : sf_E kd (i + 1) k = sf_E kd i k := if_pos h
theorem sf_E_ge {kd : Nat → Int32} {i k : Nat} (h : ¬ k < sf_H kd (i + 1)) : sf_E kd (i + 1) k = i + 1 := if_neg h
theorem sf_E_top (kd : Nat → Int32) (i : Nat) : sf_E kd i (sf_H kd i) = i := by
  cases i with
  | zero => rfl
  | succ i => exact sf_E_ge (Nat.lt_irrefl _)
theorem sf_E_le (kd : Nat → Int32) : ∀ i k, sf_E kd i k ≤ i := by
  intro i
  induction i with
  | zero => intro k; exact Nat.le_refl 0
  | succ i ih =>
    intro k
    by_cases h : k < sf_H kd (i + 1)
    · rw [sf_E_lt h]; have := ih k; omega
    · rw [sf_E_ge h]; omega
theorem sf_E_step (kd : Nat → Int32) : ∀ i k, k < sf_H kd i → sf_E kd i k < sf_E kd i (k + 1) := by
  intro i
  induction i with
  | zero => intro k h; exact absurd h (Nat.not_lt_zero k)
  | succ i ih =>
    intro k h
    rw [sf_E_lt h]
    by_cases h2 : k + 1 < sf_H kd (i + 1)
    · rw [sf_E_lt h2]; rw [sf_H_s] at h2; exact ih k (by omega)
    · rw [sf_E_ge h2]; have := sf_E_le kd i k; omega
theorem sf_E_zero (kd : Nat → Int32) (hv : ∀ i, 0 < sf_H kd (i + 1)) : ∀ i, sf_E kd i 0 = 0 := by
  intro i
  induction i with
  | zero => rfl
  | succ i ih => rw [sf_E_lt (hv i), ih]
/-- the stack as it was when its k-th element had been closed -/
theorem sf_E_back (kd : Nat → Int32) : ∀ n k, k ≤ sf_H kd n → sf_H kd (sf_E kd n k) = k ∧ ∀ j, j ≤ k → sf_E kd (sf_E kd n k) j = sf_E kd n j := by
  intro n
  induction n with
  | zero =>
    intro k h
    have hk : k = 0 := Nat.le_zero.mp h
    subst hk
    exact ⟨rfl, fun j _ => rfl⟩
  | succ n ih =>
    intro k h
    by_cases h2 : k < sf_H kd (n + 1)
    · rw [sf_E_lt h2]
      have h3 := h2
      rw [sf_H_s] at h3
      obtain ⟨a, b⟩ := ih k (by omega)
      refine ⟨a, fun j hj => ?_⟩
      rw [b j hj, sf_E_lt (by omega)]
    · have e : k = sf_H kd (n + 1) := by omega
      rw [sf_E_ge h2]
      exact ⟨e.symm, fun j _ => rfl⟩
theorem sf_H_cg {kd kd' : Nat → Int32} : ∀ n, (∀ i, i < n → kd' i = kd i) → sf_H kd' n = sf_H kd n := by
  intro n
  induction n with
  | zero => intro _; rfl
  | succ n ih =>
    intro h
    rw [sf_H_s, sf_H_s, h n (by omega), ih (fun i hi => h i (by omega))]
theorem sf_E_cg {kd kd' : Nat → Int32} : ∀ n, (∀ i, i < n → kd' i = kd i) → ∀ k, sf_E kd' n k = sf_E kd n k := by
  intro n
  induction n with
  | zero => intro _ k; rfl
  | succ n ih =>
    intro h k
    have e : sf_H kd' (n + 1) = sf_H kd (n + 1) := sf_H_cg (n + 1) h
    by_cases h2 : k < sf_H kd (n + 1)
    · rw [sf_E_lt h2, sf_E_lt (e ▸ h2), ih (fun i hi => h i (by omega))]
    · rw [sf_E_ge h2, sf_E_ge (e ▸ h2)]
/-- the common length of an index in two formulas: 0 absent, -1 several -/
def sf_cs (x y : Int32) : Int32 := if x = 0 ∨ x = y then y else if y = 0 then x else -1
theorem sf_cs_0l (y : Int32) : sf_cs 0 y = y := if_pos (Or.inl rfl)
theorem sf_cs_0r (x : Int32) : sf_cs x 0 = x := by
  unfold sf_cs
  by_cases h : x = 0
  · rw [if_pos (Or.inl h), h]
  · rw [if_neg (fun z => z.elim h h), if_pos rfl]
theorem sf_cs_eq (x : Int32) : sf_cs x x = x := if_pos (Or.inr rfl)
theorem sf_cs_ne {x y : Int32} (hx : x ≠ 0) (hy : y ≠ 0) (h : x ≠ y) : sf_cs x y = -1 := by
  unfold sf_cs
  rw [if_neg (fun z => z.elim hx h), if_neg hy]
theorem sf_cs_m1l (y : Int32) : sf_cs (-1) y = -1 := by
  by_cases h0 : y = 0
  · rw [h0, sf_cs_0r]
  · by_cases h1 : (-1 : Int32) = y
    · rw [← h1, sf_cs_eq]
    · exact sf_cs_ne (by decide) h0 h1
theorem sf_cs_m1r (x : Int32) : sf_cs x (-1) = -1 := by
  by_cases h0 : x = 0
  · rw [h0, sf_cs_0l]
  · by_cases h1 : x = -1
    · rw [h1, sf_cs_eq]
    · exact sf_cs_ne h0 (by decide) h1
theorem sf_cs_as (x y z : Int32) : sf_cs (sf_cs x y) z = sf_cs x (sf_cs y z) := by
  by_cases hx : x = 0
  · rw [hx, sf_cs_0l, sf_cs_0l]
  by_cases hy : y = 0
  · rw [hy, sf_cs_0l, sf_cs_0r]
  by_cases hz : z = 0
  · rw [hz, sf_cs_0r, sf_cs_0r]
  by_cases hxy : x = y
  · subst hxy
    rw [sf_cs_eq]
    by_cases hxz : x = z
    · subst hxz
      rw [sf_cs_eq, sf_cs_eq]
    · rw [sf_cs_ne hx hz hxz, sf_cs_m1r]
  · rw [sf_cs_ne hx hy hxy, sf_cs_m1l]
    by_cases hyz : y = z
    · subst hyz
      rw [sf_cs_eq, sf_cs_ne hx hy hxy]
    · rw [sf_cs_ne hy hz hyz, sf_cs_m1r]
/-- the common length over m parts from lo on -/
def sf_fs (cb : Nat → Int32) (lo : Nat) : Nat → Int32
  | 0 => 0
  | m + 1 => sf_cs (sf_fs cb lo m) (cb (lo + m))
theorem sf_fs_0 (cb : Nat → Int32) (lo : Nat) : sf_fs cb lo 0 = 0 := rfl
theorem sf_fs_s (cb : Nat → Int32) (lo m : Nat) : sf_fs cb lo (m + 1) = sf_cs (sf_fs cb lo m) (cb (lo + m)) := rfl
theorem sf_fs_add (cb : Nat → Int32) (lo m : Nat) : ∀ l, sf_fs cb lo (m + l) = sf_cs (sf_fs cb lo m) (sf_fs cb (lo + m) l) := by
  intro l
  induction l with
  | zero => rw [Nat.add_zero, sf_fs_0, sf_cs_0r]
  | succ l ih => rw [← Nat.add_assoc, sf_fs_s, ih, sf_fs_s, sf_cs_as, Nat.add_assoc]
theorem sf_fs_cg {cb cb' : Nat → Int32} {lo : Nat} : ∀ m, (∀ i, lo ≤ i → i < lo + m → cb' i = cb i) → sf_fs cb' lo m = sf_fs cb lo m := by
  intro m
  induction m with
  | zero => intro _; rfl
  | succ m ih =>
    intro h
    rw [sf_fs_s, sf_fs_s, ih (fun i h1 h2 => h i h1 (by omega)), h (lo + m) (by omega) (by omega)]
def sf_ok (x : Int32) : Prop := x = -1 ∨ ∃ k : Nat, k ≤ 6 ∧ x = nI k
theorem sf_ok_0 : sf_ok 0 := Or.inr ⟨0, by omega, rfl⟩
theorem sf_ok_cs {x y : Int32} (hx : sf_ok x) (hy : sf_ok y) : sf_ok (sf_cs x y) := by
  unfold sf_cs
  by_cases h : x = 0 ∨ x = y
  · rw [if_pos h]; exact hy
  · rw [if_neg h]
    by_cases h2 : y = 0
    · rw [if_pos h2]; exact hx
    · rw [if_neg h2]; exact Or.inl rfl
theorem sf_ok_fs {cb : Nat → Int32} {lo : Nat} : ∀ m, (∀ i, lo ≤ i → i < lo + m → sf_ok (cb i)) → sf_ok (sf_fs cb lo m) := by
  intro m
  induction m with
  | zero => intro _; exact sf_ok_0
  | succ m ih =>
    intro h
    rw [sf_fs_s]
    exact sf_ok_cs (ih (fun i h1 h2 => h i h1 (by omega))) (h (lo + m) (by omega) (by omega))
end
section
theorem sm_0 (f : Nat → Int32) : bx_sum f 0 = 0 := rfl
theorem sm_s (f : Nat → Int32) (n : Nat) : bx_sum f (n + 1) = bx_sum f n + f n := rfl
theorem sm_cg {f g : Nat → Int32} : ∀ n, (∀ i, i < n → f i = g i) → bx_sum f n = bx_sum g n := by
  intro n
  induction n with
  | zero => intro _; rfl
  | succ n ih => intro h; rw [sm_s, sm_s, ih (fun i hi => h i (by omega)), h n (by omega)]
theorem sm_add (f : Nat → Int32) (m : Nat) : ∀ l, bx_sum f (m + l) = bx_sum f m + bx_sum (fun i => f (m + i)) l := by
  intro l
  induction l with
  | zero => rw [Nat.add_zero, sm_0, Int32.add_zero]
  | succ l ih => rw [← Nat.add_assoc, sm_s, ih, sm_s, Int32.add_assoc]
theorem sm_zero {f : Nat → Int32} : ∀ n, (∀ i, i < n → f i = 0) → bx_sum f n = 0 := by
  intro n
  induction n with
  | zero => intro _; rfl
  | succ n ih => intro h; rw [sm_s, ih (fun i hi => h i (by omega)), h n (by omega)]; rfl
theorem sm_cut {f : Nat → Int32} {m n : Nat} (h : m ≤ n) (hz : ∀ i, m ≤ i → i < n → f i = 0) : bx_sum f n = bx_sum f m := by
  obtain ⟨l, rfl⟩ : ∃ l, n = m + l := ⟨n - m, by omega⟩
  rw [sm_add, sm_zero l (fun i hi => hz (m + i) (by omega) (by omega)), Int32.add_zero]
theorem sm_six (f : Nat → Int32) : ∀ n, bx_sum f (6 * n) = bx_sum (fun i => bx_sum (fun j => f (6 * i + j)) 6) n := by
  intro n
  induction n with
  | zero => rfl
  | succ n ih =>
    rw [Nat.mul_succ, sm_add, ih]
    rfl
theorem sm_block {f : Nat → Int32} {h w : Nat} (hh : h ≤ 6) (hw : w ≤ 6) (hz : ∀ i j, i < 6 → j < 6 → (h ≤ i ∨ w ≤ j) → f (6 * i + j) = 0) : bx_sum f 36 = bx_sum (fun i => bx_sum (fun j => f (6 * i + j)) w) h := by
  rw [show (36 : Nat) = 6 * 6 from rfl, sm_six]
  rw [sm_cut hh (fun i h1 h2 => sm_zero 6 (fun j hj => hz i j h2 hj (Or.inl h1)))]
  exact sm_cg h (fun i hi => sm_cut hw (fun j h1 h2 => hz i j (by omega) h2 (Or.inr h1)))
theorem sm_nat {f : Nat → Int32} : ∀ n, (∀ i, i < n → f i = 0 ∨ f i = 1) → ∃ m : Nat, m ≤ n ∧ bx_sum f n = nI m := by
  intro n
  induction n with
  | zero => intro _; exact ⟨0, Nat.le_refl 0, rfl⟩
  | succ n ih =>
    intro h
    obtain ⟨m, hm, e⟩ := ih (fun i hi => h i (by omega))
    rcases h n (by omega) with z | z
    · exact ⟨m, by omega, by rw [sm_s, e, z, Int32.add_zero]⟩
    · exact ⟨m + 1, by omega, by rw [sm_s, e, z, nI_1]⟩
/-- 1 where a number stands -/
def sf_nz (x : Int32) : Int32 := if x = 0 then 0 else 1
theorem sf_nz0 {x : Int32} (h : x = 0) : sf_nz x = 0 := if_pos h
theorem sf_nz1 {x : Int32} (h : ¬ x = 0) : sf_nz x = 1 := if_neg h
theorem sf_nz01 (x : Int32) : sf_nz x = 0 ∨ sf_nz x = 1 := by
  by_cases h : x = 0
  · exact Or.inl (sf_nz0 h)
  · exact Or.inr (sf_nz1 h)
theorem sf_xi (r i j : Nat) : nI r * 36 + nI i * 6 + nI j = nI (36 * r + 6 * i + j) := by
  show nI r * nI 36 + nI i * nI 6 + nI j = _
  rw [pk_mul, pk_mul, nI_add, nI_add]
  exact congrArg nI (by omega)
theorem sf_yi (r i j : Nat) : 36 * nI r + 6 * nI i + nI j = nI (36 * r + 6 * i + j) := by
  show nI 36 * nI r + nI 6 * nI i + nI j = _
  rw [pk_mul, pk_mul, nI_add, nI_add]
theorem sf_xp (r p : Nat) : nI r * 36 + nI p = nI (36 * r + p) := by
  show nI r * nI 36 + nI p = _
  rw [pk_mul, nI_add]
  exact congrArg nI (by omega)
theorem sf_yp (r p : Nat) : 36 * nI r + nI p = nI (36 * r + p) := by
  show nI 36 * nI r + nI p = _
  rw [pk_mul, nI_add]
/-- m cells from b on have been written with g, the others stand as in N -/
def sf_blk (b m : Nat) (g N A : Nat → Int32) : Prop := (∀ i, i < m → A (b + i) = g i) ∧ (∀ k, (k < b ∨ b + m ≤ k) → A k = N k)
theorem sf_blk_0 (b : Nat) (g N : Nat → Int32) : sf_blk b 0 g N N := ⟨fun i h => absurd h (Nat.not_lt_zero i), fun _ _ => rfl⟩
theorem sf_blk_s {b m : Nat} {g N A : Nat → Int32} {x : Int32} (h : sf_blk b m g N A) (hx : x = g m) : sf_blk b (m + 1) g N (upd A (b + m) x) := by
  refine ⟨fun i hi => ?_, fun k hk => ?_⟩
  · by_cases e : i = m
    · subst e; rw [pk_us]; exact hx
    · rw [pk_un (by omega)]; exact h.1 i (by omega)
  · rw [pk_un (by omega)]; exact h.2 k (by omega)
/-- the swaps of the lines before i, and in line i those before j -/
def sf_sw (r i j : Nat) (N A : Nat → Int32) : Prop :=
  (∀ a b, a < 6 → b < 6 → ((a < i ∧ b < i) ∨ (a = i ∧ b < j) ∨ (b = i ∧ a < j)) → A (36 * r + 6 * a + b) = N (36 * r + 6 * b + a)) ∧
  (∀ a b, a < 6 → b < 6 → ¬ ((a < i ∧ b < i) ∨ (a = i ∧ b < j) ∨ (b = i ∧ a < j)) → A (36 * r + 6 * a + b) = N (36 * r + 6 * a + b)) ∧
  (∀ k, (k < 36 * r ∨ 36 * r + 36 ≤ k) → A k = N k)
theorem sf_sw_0 (r : Nat) (N : Nat → Int32) : sf_sw r 0 0 N N :=
  ⟨fun a b _ _ h => absurd h (by omega), fun _ _ _ _ _ => rfl, fun _ _ => rfl⟩
theorem sf_sw_n {r i : Nat} {N A : Nat → Int32} (h : sf_sw r i i N A) : sf_sw r (i + 1) 0 N A := by
  refine ⟨fun a b ha hb hc => ?_, fun a b ha hb hc => h.2.1 a b ha hb (by omega), h.2.2⟩
  by_cases e : a = i ∧ b = i
  · rw [e.1, e.2]
    exact h.2.1 i i (by omega) (by omega) (by omega)
  · exact h.1 a b ha hb (by omega)
theorem sf_sw_s {r i j : Nat} {N A : Nat → Int32} (h : sf_sw r i j N A) (hj : j < i) (hi : i < 6) : sf_sw r i (j + 1) N (upd (upd A (36 * r + 6 * i + j) (A (36 * r + 6 * j + i))) (36 * r + 6 * j + i) (A (36 * r + 6 * i + j))) := by
  have e1 : A (36 * r + 6 * j + i) = N (36 * r + 6 * j + i) := h.2.1 j i (by omega) hi (by omega)
  have e2 : A (36 * r + 6 * i + j) = N (36 * r + 6 * i + j) := h.2.1 i j hi (by omega) (by omega)
  rw [e1, e2]
  refine ⟨fun a b ha hb hc => ?_, fun a b ha hb hc => ?_, fun k hk => ?_⟩
  · by_cases c1 : a = j ∧ b = i
    · obtain ⟨rfl, rfl⟩ := c1
      rw [pk_us]
    · rw [pk_un (by omega)]
      by_cases c2 : a = i ∧ b = j
      · obtain ⟨rfl, rfl⟩ := c2
        rw [pk_us]
      · rw [pk_un (by omega)]
        exact h.1 a b ha hb (by omega)
  · rw [pk_un (by omega), pk_un (by omega)]
    exact h.2.1 a b ha hb (by omega)
  · rw [pk_un (by omega), pk_un (by omega)]
    exact h.2.2 k hk
theorem sf_sw_e {r : Nat} {N A : Nat → Int32} (h : sf_sw r 6 0 N A) : (∀ a b, a < 6 → b < 6 → A (36 * r + 6 * a + b) = N (36 * r + 6 * b + a)) ∧ (∀ k, (k < 36 * r ∨ 36 * r + 36 ≤ k) → A k = N k) :=
  ⟨fun a b ha hb => h.1 a b ha hb (by omega), h.2.2⟩
/-- the first m cells written across -/
def sf_tr (r m : Nat) (g N A : Nat → Int32) : Prop := (∀ k, k < m → A (36 * r + 6 * (k % 6) + k / 6) = g k) ∧ (∀ k, (k < 36 * r ∨ 36 * r + 36 ≤ k) → A k = N k)
theorem sf_tr_0 (r : Nat) (g N : Nat → Int32) : sf_tr r 0 g N N := ⟨fun i h => absurd h (Nat.not_lt_zero i), fun _ _ => rfl⟩
theorem sf_tr_s {r m : Nat} {g N A : Nat → Int32} {x : Int32} (h : sf_tr r m g N A) (hm : m < 36) (hx : x = g m) : sf_tr r (m + 1) g N (upd A (36 * r + 6 * (m % 6) + m / 6) x) := by
  refine ⟨fun k hk => ?_, fun k hk => ?_⟩
  · by_cases e : k = m
    · subst e; rw [pk_us]; exact hx
    · rw [pk_un (by omega)]; exact h.1 k (by omega)
  · rw [pk_un (by omega)]; exact h.2 k hk
theorem sf_tr_e {r : Nat} {g N A : Nat → Int32} (h : sf_tr r 36 g N A) (a b : Nat) (ha : a < 6) (hb : b < 6) : A (36 * r + 6 * a + b) = g (6 * b + a) := by
  have := h.1 (6 * b + a) (by omega)
  rw [show (6 * b + a) % 6 = a by omega, show (6 * b + a) / 6 = b by omega] at this
  exact this
end
section
/-- a register's face: rank, rows, columns, format -/
def sf_Sh (k h w f : Nat) : Prop := 1 ≤ h ∧ h ≤ 6 ∧ 1 ≤ w ∧ w ≤ 6 ∧ ((k = 0 ∧ h = 1 ∧ w = 1 ∧ f = 0) ∨ (k = 1 ∧ w = 1 ∧ f ≤ 1) ∨ (k = 2 ∧ f ≤ 7))
def sf_Out (h w : Nat) (g : Nat → Int32) : Prop := ∀ i j, i < 6 → j < 6 → (h ≤ i ∨ w ≤ j) → g (6 * i + j) = 0
def sf_Reg (rk rw cl fm ce : Nat → Int32) (r : Nat) : Prop :=
  ∃ k h w f : Nat, rk r = nI k ∧ rw r = nI h ∧ cl r = nI w ∧ fm r = nI f ∧ sf_Sh k h w f ∧ sf_Out h w (fun i => ce (36 * r + i))
def sf_Regs (xrk xrw xcl xfm xnm yrk yrw ywi yfm yce : Nat → Int32) : Prop :=
  (∀ r, r < 6 → xrk r = yrk r ∧ xrw r = yrw r ∧ xcl r = ywi r ∧ xfm r = yfm r) ∧ (∀ k, k < 216 → xnm k = yce k) ∧ (∀ r, r < 6 → sf_Reg yrk yrw ywi yfm yce r)
/-- an index: none or one of three -/
def sf_id (x : Int32) : Prop := x = -1 ∨ ∃ p : Nat, p < 3 ∧ x = nI p
def sf_ln (x : Int32) : Prop := ∃ h : Nat, 1 ≤ h ∧ h ≤ 6 ∧ x = nI h
/-- what part i gives to index p -/
def sf_cb (kd nu fi se ro wi : Nat → Int32) (p i : Nat) : Int32 :=
  if kd i = 1 then (if fi (nu i).toNatClampNeg = nI p then ro (nu i).toNatClampNeg else if se (nu i).toNatClampNeg = nI p then wi (nu i).toNatClampNeg else 0) else 0
def sf_Cps (c : Nat) (xcp xfi xse yce yfi yse yrw ywi : Nat → Int32) : Prop :=
  ∀ a, a < c → (∀ k, k < 36 → xcp (36 * a + k) = yce (216 + 36 * a + k)) ∧ xfi a = yfi (6 + a) ∧ xse a = yse (6 + a) ∧ sf_id (yfi (6 + a)) ∧ sf_id (yse (6 + a)) ∧ (yfi (6 + a) = yse (6 + a) → yfi (6 + a) = -1) ∧ sf_ln (yrw (6 + a)) ∧ sf_ln (ywi (6 + a))
def sf_Pt (c : Nat) (xk xa ykd ynu ysz : Nat → Int32) (i : Nat) : Prop :=
  sf_ar (ykd i) ≤ sf_H ykd i ∧ sf_H ykd (i + 1) ≤ 6 ∧ ysz i = nI (i + 1 - sf_E ykd (i + 1) (sf_H ykd (i + 1) - 1)) ∧
  ((ykd i = 0 ∧ xk i = 3 ∧ xa i = ynu i) ∨ (ykd i = 1 ∧ xk i = 4 ∧ ∃ a : Nat, a < c ∧ xa i = nI a ∧ ynu i = nI (6 + a)) ∨ (ykd i = 2 ∧ xk i = 5) ∨ (∃ t : Nat, t < 3 ∧ ykd i = nI (3 + t) ∧ xk i = nI t))
def sf_Sps (n d : Nat) (xsp ykd ynu yfi yse yrw ywi : Nat → Int32) : Prop :=
  ∀ k p, k < d → p < 3 → xsp (3 * k + p) = sf_fs (sf_cb ykd ynu yfi yse yrw ywi p) (sf_E ykd n k) (sf_E ykd n (k + 1) - sf_E ykd n k)
def sf_Form (n c d : Nat) (xk xa xcp xfi xse xsp yce ykd ynu ysz yfi yse yrw ywi : Nat → Int32) : Prop :=
  n ≤ 20 ∧ c ≤ 6 ∧ d ≤ 6 ∧ sf_H ykd n = d ∧ (∀ i, i < n → sf_Pt c xk xa ykd ynu ysz i) ∧ sf_Cps c xcp xfi xse yce yfi yse yrw ywi ∧ sf_Sps n d xsp ykd ynu yfi yse yrw ywi
theorem sf_Form_0 (xk xa xcp xfi xse xsp yce ykd ynu ysz yfi yse yrw ywi : Nat → Int32) : sf_Form 0 0 0 xk xa xcp xfi xse xsp yce ykd ynu ysz yfi yse yrw ywi :=
  ⟨by omega, by omega, by omega, rfl, fun i h => absurd h (Nat.not_lt_zero i), fun i h => absurd h (Nat.not_lt_zero i), fun k p h => absurd h (Nat.not_lt_zero k)⟩
theorem sf_cb_cg {kd nu fi se ro wi kd' nu' fi' se' ro' wi' : Nat → Int32} {p i : Nat} (hk : kd' i = kd i) (hn : nu' i = nu i) (h : kd i = 1 → fi' (nu i).toNatClampNeg = fi (nu i).toNatClampNeg ∧ se' (nu i).toNatClampNeg = se (nu i).toNatClampNeg ∧ ro' (nu i).toNatClampNeg = ro (nu i).toNatClampNeg ∧ wi' (nu i).toNatClampNeg = wi (nu i).toNatClampNeg) : sf_cb kd' nu' fi' se' ro' wi' p i = sf_cb kd nu fi se ro wi p i := by
  unfold sf_cb
  rw [hk, hn]
  by_cases e : kd i = 1
  · obtain ⟨h1, h2, h3, h4⟩ := h e
    rw [h1, h2, h3, h4]
  · rw [if_neg e, if_neg e]
theorem sf_cb_no {kd nu fi se ro wi : Nat → Int32} {p i : Nat} (h : ¬ kd i = 1) : sf_cb kd nu fi se ro wi p i = 0 := if_neg h
/-- an array part points to a copy -/
theorem sf_Pt_a {c : Nat} {xk xa ykd ynu ysz : Nat → Int32} {i : Nat} (h : sf_Pt c xk xa ykd ynu ysz i) (e : ykd i = 1) : xk i = 4 ∧ ∃ a : Nat, a < c ∧ xa i = nI a ∧ ynu i = nI (6 + a) := by
  rcases h.2.2.2 with z | z | z | ⟨t, ht, z, _⟩
  · rw [e] at z; exact absurd z.1 (by decide)
  · exact z.2
  · rw [e] at z; exact absurd z.1 (by decide)
  · rw [e] at z
    have : ∀ t, t < 3 → ¬ (1 : Int32) = nI (3 + t) := by decide
    exact absurd z (this t ht)
/-- the formulas stand when only registers, or scratch, change -/
theorem sf_Form_cg {n c d : Nat} {xk xa xcp xfi xse xsp yce ykd ynu ysz yfi yse yrw ywi yce' yrw' ywi' : Nat → Int32}
    (h : sf_Form n c d xk xa xcp xfi xse xsp yce ykd ynu ysz yfi yse yrw ywi)
    (h1 : ∀ k, 216 ≤ k → k < 432 → yce' k = yce k) (h2 : ∀ a, 6 ≤ a → a < 12 → yrw' a = yrw a) (h3 : ∀ a, 6 ≤ a → a < 12 → ywi' a = ywi a) :
    sf_Form n c d xk xa xcp xfi xse xsp yce' ykd ynu ysz yfi yse yrw' ywi' := by
  obtain ⟨a1, a2, a3, a4, a5, a6, a7⟩ := h
  refine ⟨a1, a2, a3, a4, a5, fun a ha => ?_, fun k p hk hp => ?_⟩
  · obtain ⟨b1, b2, b3, b4, b5, b6, b7, b8⟩ := a6 a ha
    refine ⟨fun k hk => ?_, b2, b3, b4, b5, b6, ?_, ?_⟩
    · rw [h1 _ (by omega) (by omega)]; exact b1 k hk
    · rw [h2 _ (by omega) (by omega)]; exact b7
    · rw [h3 _ (by omega) (by omega)]; exact b8
  · rw [a7 k p hk hp]
    apply Eq.symm
    apply sf_fs_cg
    intro i hi1 hi2
    have hn : i < n := by have := sf_E_le ykd n (k + 1); omega
    apply sf_cb_cg rfl rfl
    intro e
    obtain ⟨_, a, ha, _, e2⟩ := sf_Pt_a (a5 i hn) e
    have e3 : (ynu i).toNatClampNeg = 6 + a := by rw [e2]; exact nI_clamp (by omega)
    rw [e3, h2 _ (by omega) (by omega), h3 _ (by omega) (by omega)]
    exact ⟨rfl, rfl, rfl, rfl⟩
theorem sf_cb_ok {n c : Nat} {xk xa xcp xfi xse yce ykd ynu ysz yfi yse yrw ywi : Nat → Int32} (hp : ∀ i, i < n → sf_Pt c xk xa ykd ynu ysz i) (hc : c ≤ 6) (hs : sf_Cps c xcp xfi xse yce yfi yse yrw ywi) (p i : Nat) (hi : i < n) : sf_ok (sf_cb ykd ynu yfi yse yrw ywi p i) := by
  unfold sf_cb
  by_cases e : ykd i = 1
  · rw [if_pos e]
    obtain ⟨_, a, ha, _, e2⟩ := sf_Pt_a (hp i hi) e
    have e3 : (ynu i).toNatClampNeg = 6 + a := by rw [e2]; exact nI_clamp (by omega)
    obtain ⟨_, _, _, _, _, _, ⟨h, h1, h2, h3⟩, w, w1, w2, w3⟩ := hs a ha
    rw [e3]
    by_cases q : yfi (6 + a) = nI p
    · rw [if_pos q]; exact Or.inr ⟨h, h2, h3⟩
    · rw [if_neg q]
      by_cases q2 : yse (6 + a) = nI p
      · rw [if_pos q2]; exact Or.inr ⟨w, w2, w3⟩
      · rw [if_neg q2]; exact sf_ok_0
  · rw [if_neg e]; exact sf_ok_0
end
section
theorem sf_Pt_cg {c c' : Nat} {xk xa ykd ynu ysz xk' xa' ykd' ynu' ysz' : Nat → Int32} {i : Nat} (h : sf_Pt c xk xa ykd ynu ysz i) (hc : c ≤ c') (hk : ∀ j, j < i + 1 → ykd' j = ykd j) (h1 : xk' i = xk i) (h2 : xa' i = xa i) (h3 : ynu' i = ynu i) (h4 : ysz' i = ysz i) : sf_Pt c' xk' xa' ykd' ynu' ysz' i := by
  obtain ⟨a1, a2, a3, a4⟩ := h
  have eH : sf_H ykd' i = sf_H ykd i := sf_H_cg i (fun j hj => hk j (by omega))
  have eH1 : sf_H ykd' (i + 1) = sf_H ykd (i + 1) := sf_H_cg (i + 1) hk
  have eE : ∀ k, sf_E ykd' (i + 1) k = sf_E ykd (i + 1) k := sf_E_cg (i + 1) hk
  have ek : ykd' i = ykd i := hk i (by omega)
  refine ⟨by rw [ek, eH]; exact a1, by rw [eH1]; exact a2, by rw [h4, eH1, eE]; exact a3, ?_⟩
  rw [ek, h1, h2, h3]
  rcases a4 with z | ⟨z1, z2, a, ha, z3⟩ | z | z
  · exact Or.inl z
  · exact Or.inr (Or.inl ⟨z1, z2, a, by omega, z3⟩)
  · exact Or.inr (Or.inr (Or.inl z))
  · exact Or.inr (Or.inr (Or.inr z))
theorem sf_push {n c c' d : Nat} {xk xa xcp xfi xse xsp yce ykd ynu ysz yfi yse yrw ywi xk' xa' xcp' xfi' xse' xsp' yce' ykd' ynu' ysz' yfi' yse' yrw' ywi' : Nat → Int32} {t : Nat}
    (h : sf_Form n c d xk xa xcp xfi xse xsp yce ykd ynu ysz yfi yse yrw ywi) (hn : n < 20) (hc : c ≤ c') (hc' : c' ≤ 6)
    (ht : sf_ar (ykd' n) = t) (htd : t ≤ d) (hd : d + 1 - t ≤ 6)
    (hkd : ∀ j, j < n → ykd' j = ykd j) (hxk : ∀ j, j < n → xk' j = xk j) (hxa : ∀ j, j < n → xa' j = xa j) (hnu : ∀ j, j < n → ynu' j = ynu j) (hsz : ∀ j, j < n → ysz' j = ysz j)
    (hs : ysz' n = nI (n + 1 - sf_E ykd n (d - t)))
    (hcase : (ykd' n = 0 ∧ xk' n = 3 ∧ xa' n = ynu' n) ∨ (ykd' n = 1 ∧ xk' n = 4 ∧ ∃ a : Nat, a < c' ∧ xa' n = nI a ∧ ynu' n = nI (6 + a)) ∨ (ykd' n = 2 ∧ xk' n = 5) ∨ (∃ t : Nat, t < 3 ∧ ykd' n = nI (3 + t) ∧ xk' n = nI t))
    (hcps : sf_Cps c' xcp' xfi' xse' yce' yfi' yse' yrw' ywi')
    (hold : ∀ a, a < c → yfi' (6 + a) = yfi (6 + a) ∧ yse' (6 + a) = yse (6 + a) ∧ yrw' (6 + a) = yrw (6 + a) ∧ ywi' (6 + a) = ywi (6 + a))
    (hsp : ∀ k p, k < d - t → p < 3 → xsp' (3 * k + p) = xsp (3 * k + p))
    (htop : ∀ p, p < 3 → xsp' (3 * (d - t) + p) = sf_cs (sf_fs (sf_cb ykd ynu yfi yse yrw ywi p) (sf_E ykd n (d - t)) (n - sf_E ykd n (d - t))) (sf_cb ykd' ynu' yfi' yse' yrw' ywi' p n)) :
    sf_Form (n + 1) c' (d + 1 - t) xk' xa' xcp' xfi' xse' xsp' yce' ykd' ynu' ysz' yfi' yse' yrw' ywi' := by
  obtain ⟨a1, a2, a3, a4, a5, a6, a7⟩ := h
  have eHn : sf_H ykd' n = d := by rw [sf_H_cg n hkd, a4]
  have eH : sf_H ykd' (n + 1) = d + 1 - t := by rw [sf_H_s, eHn, ht]
  have eE : ∀ k, sf_E ykd' n k = sf_E ykd n k := sf_E_cg n hkd
  have ecb : ∀ p i, i < n → sf_cb ykd' ynu' yfi' yse' yrw' ywi' p i = sf_cb ykd ynu yfi yse yrw ywi p i := by
    intro p i hi
    apply sf_cb_cg (hkd i hi) (hnu i hi)
    intro e
    obtain ⟨_, a, ha, _, e2⟩ := sf_Pt_a (a5 i hi) e
    have e3 : (ynu i).toNatClampNeg = 6 + a := by rw [e2]; exact nI_clamp (by omega)
    rw [e3]
    exact hold a ha
  refine ⟨by omega, hc', hd, eH, fun i hi => ?_, hcps, fun k p hk hp => ?_⟩
  · by_cases e : i = n
    · subst e
      refine ⟨by rw [ht, eHn]; exact htd, by rw [eH]; exact hd, ?_, hcase⟩
      rw [hs, eH, sf_E_lt (by rw [eH]; omega), eE, show d + 1 - t - 1 = d - t by omega]
    · exact sf_Pt_cg (a5 i (by omega)) hc (fun j hj => hkd j (by omega)) (hxk i (by omega)) (hxa i (by omega)) (hnu i (by omega)) (hsz i (by omega))
  · by_cases e : k = d - t
    · subst e
      have hl : sf_E ykd n (d - t) ≤ n := sf_E_le ykd n (d - t)
      rw [htop p hp, sf_E_lt (by rw [eH]; omega), eE, sf_E_ge (by rw [eH]; omega), show n + 1 - sf_E ykd n (d - t) = (n - sf_E ykd n (d - t)) + 1 by omega, sf_fs_s, show sf_E ykd n (d - t) + (n - sf_E ykd n (d - t)) = n by omega]
      rw [sf_fs_cg _ (fun i h1 h2 => ecb p i (by omega))]
    · have hl : sf_E ykd n (k + 1) ≤ n := sf_E_le ykd n (k + 1)
      rw [hsp k p (by omega) hp, a7 k p (by omega) hp, sf_E_lt (by rw [eH]; omega), sf_E_lt (by rw [eH]; omega), eE, eE]
      rw [sf_fs_cg _ (fun i h1 h2 => ecb p i (by omega))]
theorem sf_n0 {n c d : Nat} {xk xa xcp xfi xse xsp yce ykd ynu ysz yfi yse yrw ywi : Nat → Int32} (h : sf_Form n c d xk xa xcp xfi xse xsp yce ykd ynu ysz yfi yse yrw ywi) : n = 0 ↔ d = 0 := by
  obtain ⟨a1, a2, a3, a4, a5, a6, a7⟩ := h
  constructor
  · intro e; subst e; rw [← a4]; rfl
  · intro e
    cases n with
    | zero => rfl
    | succ n =>
      have := (a5 n (by omega)).1
      rw [sf_H_s] at a4
      omega
theorem sf_size1 {n c d : Nat} {xk xa xcp xfi xse xsp yce ykd ynu ysz yfi yse yrw ywi : Nat → Int32} (h : sf_Form n c d xk xa xcp xfi xse xsp yce ykd ynu ysz yfi yse yrw ywi) (hd : 1 ≤ d) : 1 ≤ n ∧ sf_E ykd n (d - 1) < n ∧ ysz (n - 1) = nI (n - sf_E ykd n (d - 1)) := by
  have hn : n ≠ 0 := fun e => by have := (sf_n0 h).mp e; omega
  obtain ⟨a1, a2, a3, a4, a5, a6, a7⟩ := h
  have h1 := sf_E_step ykd n (d - 1) (by omega)
  have h2 := sf_E_top ykd n
  rw [a4] at h2
  rw [show d - 1 + 1 = d by omega, h2] at h1
  refine ⟨by omega, h1, ?_⟩
  have := (a5 (n - 1) (by omega)).2.2.1
  rw [show n - 1 + 1 = n by omega, a4] at this
  exact this
theorem sf_size2 {n c d : Nat} {xk xa xcp xfi xse xsp yce ykd ynu ysz yfi yse yrw ywi : Nat → Int32} (h : sf_Form n c d xk xa xcp xfi xse xsp yce ykd ynu ysz yfi yse yrw ywi) (hd : 2 ≤ d) : 1 ≤ sf_E ykd n (d - 1) ∧ sf_E ykd n (d - 2) < sf_E ykd n (d - 1) ∧ ysz (sf_E ykd n (d - 1) - 1) = nI (sf_E ykd n (d - 1) - sf_E ykd n (d - 2)) := by
  obtain ⟨b1, b2, b3⟩ := sf_size1 h (by omega)
  obtain ⟨a1, a2, a3, a4, a5, a6, a7⟩ := h
  have h1 := sf_E_step ykd n (d - 2) (by omega)
  rw [show d - 2 + 1 = d - 1 by omega] at h1
  obtain ⟨c1, c2⟩ := sf_E_back ykd n (d - 1) (by omega)
  have c3 := c2 (d - 2) (by omega)
  refine ⟨by omega, h1, ?_⟩
  have := (a5 (sf_E ykd n (d - 1) - 1) (by omega)).2.2.1
  rw [show sf_E ykd n (d - 1) - 1 + 1 = sf_E ykd n (d - 1) by omega, c1, show d - 1 - 1 = d - 2 by omega, c3] at this
  exact this
/-- what the component keeps of the top formula's lengths -/
theorem sf_top {n c d : Nat} {xk xa xcp xfi xse xsp yce ykd ynu ysz yfi yse yrw ywi : Nat → Int32} (h : sf_Form n c d xk xa xcp xfi xse xsp yce ykd ynu ysz yfi yse yrw ywi) (hd : 1 ≤ d) (p : Nat) (hp : p < 3) : xsp (3 * (d - 1) + p) = sf_fs (sf_cb ykd ynu yfi yse yrw ywi p) (sf_E ykd n (d - 1)) (n - sf_E ykd n (d - 1)) := by
  obtain ⟨a1, a2, a3, a4, a5, a6, a7⟩ := h
  have h2 := sf_E_top ykd n
  rw [a4] at h2
  have := a7 (d - 1) p (by omega) hp
  rw [show d - 1 + 1 = d by omega, h2] at this
  exact this
theorem sf_top2 {n c d : Nat} {xk xa xcp xfi xse xsp yce ykd ynu ysz yfi yse yrw ywi : Nat → Int32} (h : sf_Form n c d xk xa xcp xfi xse xsp yce ykd ynu ysz yfi yse yrw ywi) (hd : 2 ≤ d) (p : Nat) (hp : p < 3) : sf_cs (xsp (3 * (d - 2) + p)) (xsp (3 * (d - 1) + p)) = sf_fs (sf_cb ykd ynu yfi yse yrw ywi p) (sf_E ykd n (d - 2)) (n - sf_E ykd n (d - 2)) := by
  have e1 := sf_top h (by omega) p hp
  obtain ⟨b1, b2, b3⟩ := sf_size1 h (by omega)
  obtain ⟨c1, c2, c3⟩ := sf_size2 h hd
  obtain ⟨a1, a2, a3, a4, a5, a6, a7⟩ := h
  have e2 := a7 (d - 2) p (by omega) hp
  rw [show d - 2 + 1 = d - 1 by omega] at e2
  rw [e1, e2, show n - sf_E ykd n (d - 2) = (sf_E ykd n (d - 1) - sf_E ykd n (d - 2)) + (n - sf_E ykd n (d - 1)) by omega, sf_fs_add, show sf_E ykd n (d - 2) + (sf_E ykd n (d - 1) - sf_E ykd n (d - 2)) = sf_E ykd n (d - 1) by omega]
theorem sf_top_ok {n c d : Nat} {xk xa xcp xfi xse xsp yce ykd ynu ysz yfi yse yrw ywi : Nat → Int32} (h : sf_Form n c d xk xa xcp xfi xse xsp yce ykd ynu ysz yfi yse yrw ywi) (hd : 1 ≤ d) (p : Nat) (hp : p < 3) : sf_ok (xsp (3 * (d - 1) + p)) := by
  rw [sf_top h hd p hp]
  have hl : sf_E ykd n (d - 1) ≤ n := sf_E_le ykd n (d - 1)
  obtain ⟨a1, a2, a3, a4, a5, a6, a7⟩ := h
  exact sf_ok_fs _ (fun i h1 h2 => sf_cb_ok a5 a2 a6 p i (by omega))
end
section
theorem sf_Regs_upd {r : Nat} (hr : r < 6) {xrk xrw xcl xfm xnm yrk yrw ywi yfm yce xrk' xrw' xcl' xfm' xnm' yrk' yrw' ywi' yfm' yce' : Nat → Int32} (H : sf_Regs xrk xrw xcl xfm xnm yrk yrw ywi yfm yce)
    (e : ∀ s, s < 6 → s ≠ r → xrk' s = xrk s ∧ xrw' s = xrw s ∧ xcl' s = xcl s ∧ xfm' s = xfm s ∧ yrk' s = yrk s ∧ yrw' s = yrw s ∧ ywi' s = ywi s ∧ yfm' s = yfm s)
    (en : ∀ k, k < 216 → xnm' k = yce' k) (eo : ∀ k, k < 216 → (k < 36 * r ∨ 36 * r + 36 ≤ k) → yce' k = yce k)
    (k h w f : Nat) (q : xrk' r = nI k ∧ xrw' r = nI h ∧ xcl' r = nI w ∧ xfm' r = nI f ∧ yrk' r = nI k ∧ yrw' r = nI h ∧ ywi' r = nI w ∧ yfm' r = nI f) (S : sf_Sh k h w f) (O : sf_Out h w (fun i => yce' (36 * r + i))) :
    sf_Regs xrk' xrw' xcl' xfm' xnm' yrk' yrw' ywi' yfm' yce' := by
  obtain ⟨H1, H2, H3⟩ := H
  refine ⟨fun s hs => ?_, en, fun s hs => ?_⟩
  · by_cases z : s = r
    · subst z
      obtain ⟨q1, q2, q3, q4, q5, q6, q7, q8⟩ := q
      rw [q1, q2, q3, q4, q5, q6, q7, q8]
      exact ⟨rfl, rfl, rfl, rfl⟩
    · obtain ⟨q1, q2, q3, q4, q5, q6, q7, q8⟩ := e s hs z
      rw [q1, q2, q3, q4, q5, q6, q7, q8]
      exact H1 s hs
  · by_cases z : s = r
    · subst z
      obtain ⟨q1, q2, q3, q4, q5, q6, q7, q8⟩ := q
      exact ⟨k, h, w, f, q5, q6, q7, q8, S, O⟩
    · obtain ⟨q1, q2, q3, q4, q5, q6, q7, q8⟩ := e s hs z
      obtain ⟨k', h', w', f', p1, p2, p3, p4, p5, p6⟩ := H3 s hs
      refine ⟨k', h', w', f', by rw [q5, p1], by rw [q6, p2], by rw [q7, p3], by rw [q8, p4], p5, fun i j hi hj hz => ?_⟩
      have := p6 i j hi hj hz
      show yce' (36 * s + (6 * i + j)) = 0
      rw [eo _ (by omega) (by omega)]
      exact this
theorem sf_up8 {r : Nat} {xrk xrw xcl xfm yrk yrw ywi yfm : Nat → Int32} {a b c d a' b' c' d' : Int32} (s : Nat) (h : s ≠ r) : upd xrk r a s = xrk s ∧ upd xrw r b s = xrw s ∧ upd xcl r c s = xcl s ∧ upd xfm r d s = xfm s ∧ upd yrk r a' s = yrk s ∧ upd yrw r b' s = yrw s ∧ upd ywi r c' s = ywi s ∧ upd yfm r d' s = yfm s :=
  ⟨pk_un h, pk_un h, pk_un h, pk_un h, pk_un h, pk_un h, pk_un h, pk_un h⟩
theorem sf_blk_eq {r : Nat} {g N A N' A' : Nat → Int32} (h : sf_blk (36 * r) 36 g N A) (h' : sf_blk (36 * r) 36 g N' A') (e : ∀ k, k < 216 → N k = N' k) : ∀ k, k < 216 → A k = A' k := by
  intro k hk
  by_cases z : 36 * r ≤ k ∧ k < 36 * r + 36
  · obtain ⟨i, rfl⟩ : ∃ i, k = 36 * r + i := ⟨k - 36 * r, by omega⟩
    rw [h.1 i (by omega), h'.1 i (by omega)]
  · rw [h.2 k (by omega), h'.2 k (by omega), e k hk]
theorem sf_Regs_shape {r : Nat} (hr : r < 6) {xrk xrw xcl xfm xnm yrk yrw ywi yfm yce xnm' yce' : Nat → Int32} (H : sf_Regs xrk xrw xcl xfm xnm yrk yrw ywi yfm yce) {k h w f : Nat} (S : sf_Sh k h w f) (hX : sf_blk (36 * r) 36 (fun _ => 0) xnm xnm') (hY : sf_blk (36 * r) 36 (fun _ => 0) yce yce') :
    sf_Regs (upd xrk r (nI k)) (upd xrw r (nI h)) (upd xcl r (nI w)) (upd xfm r (nI f)) xnm' (upd yrk r (nI k)) (upd yrw r (nI h)) (upd ywi r (nI w)) (upd yfm r (nI f)) yce' :=
  sf_Regs_upd hr H (fun s _ z => sf_up8 s z) (sf_blk_eq hX hY H.2.1) (fun k _ hz => hY.2 k hz) k h w f ⟨pk_us, pk_us, pk_us, pk_us, pk_us, pk_us, pk_us, pk_us⟩ S (fun i j hi hj _ => hY.1 (6 * i + j) (by omega))
theorem sf_Regs_put {r : Nat} (hr : r < 6) {xrk xrw xcl xfm xnm yrk yrw ywi yfm yce : Nat → Int32} (H : sf_Regs xrk xrw xcl xfm xnm yrk yrw ywi yfm yce) {k h w f i j : Nat} (p1 : yrk r = nI k) (p2 : yrw r = nI h) (p3 : ywi r = nI w) (p4 : yfm r = nI f) (S : sf_Sh k h w f) (O : sf_Out h w (fun i => yce (36 * r + i))) (hi : i < h) (hj : j < w) (x : Int32) :
    sf_Regs xrk xrw xcl xfm (upd xnm (36 * r + 6 * i + j) x) yrk yrw ywi yfm (upd yce (36 * r + 6 * i + j) x) := by
  obtain ⟨a1, a2, a3, a4⟩ := H.1 r hr
  have b1 := H.2.1
  have S' := S
  obtain ⟨s1, s2, s3, s4, s5⟩ := S
  refine sf_Regs_upd hr H (fun s _ _ => ⟨rfl, rfl, rfl, rfl, rfl, rfl, rfl, rfl⟩) (fun k hk => ?_) (fun k _ hz => pk_un (by omega)) k h w f ⟨by rw [a1, p1], by rw [a2, p2], by rw [a3, p3], by rw [a4, p4], p1, p2, p3, p4⟩ S' (fun a b ha hb hz => ?_)
  · by_cases e : k = 36 * r + 6 * i + j
    · subst e; rw [pk_us, pk_us]
    · rw [pk_un e, pk_un e]; exact b1 k hk
  · show upd yce (36 * r + 6 * i + j) x (36 * r + (6 * a + b)) = 0
    rw [pk_un (by omega)]
    exact O a b ha hb hz
theorem sf_Regs_fmt {r : Nat} (hr : r < 6) {xrk xrw xcl xfm xnm yrk yrw ywi yfm yce : Nat → Int32} (H : sf_Regs xrk xrw xcl xfm xnm yrk yrw ywi yfm yce) {k h w f : Nat} (e0 : yrk r = nI k) (e1 : yrw r = nI h) (e2 : ywi r = nI w) (S : sf_Sh k h w f) (O : sf_Out h w (fun i => yce (36 * r + i))) :
    sf_Regs xrk xrw xcl (upd xfm r (nI f)) xnm yrk yrw ywi (upd yfm r (nI f)) yce := by
  obtain ⟨a1, a2, a3, a4⟩ := H.1 r hr
  exact sf_Regs_upd hr H (fun s _ z => ⟨rfl, rfl, rfl, pk_un z, rfl, rfl, rfl, pk_un z⟩) H.2.1 (fun _ _ _ => rfl) k h w f ⟨by rw [a1, e0], by rw [a2, e1], by rw [a3, e2], pk_us, e0, e1, e2, pk_us⟩ S O
theorem sf_Regs_turn {r : Nat} (hr : r < 6) {xrk xrw xcl xfm xnm yrk yrw ywi yfm yce xnm' yce' yrk' yrw' ywi' yfm' : Nat → Int32} (H : sf_Regs xrk xrw xcl xfm xnm yrk yrw ywi yfm yce) {h w f g : Nat} (e0 : yrk r = nI 2) (S : sf_Sh 2 h w f) (hg : g ≤ 7) (O : sf_Out h w (fun i => yce (36 * r + i)))
    (hX : ∀ a b, a < 6 → b < 6 → xnm' (36 * r + 6 * a + b) = xnm (36 * r + 6 * b + a)) (hX2 : ∀ k, (k < 36 * r ∨ 36 * r + 36 ≤ k) → xnm' k = xnm k)
    (hY : ∀ a b, a < 6 → b < 6 → yce' (36 * r + 6 * a + b) = yce (36 * r + 6 * b + a)) (hY2 : ∀ k, k < 216 → (k < 36 * r ∨ 36 * r + 36 ≤ k) → yce' k = yce k)
    (hy : ∀ s, s < 6 → yrk' s = yrk s ∧ (s ≠ r → yrw' s = yrw s ∧ ywi' s = ywi s ∧ yfm' s = yfm s)) (q : yrw' r = nI w ∧ ywi' r = nI h ∧ yfm' r = nI g) :
    sf_Regs xrk (upd xrw r (nI w)) (upd xcl r (nI h)) (upd xfm r (nI g)) xnm' yrk' yrw' ywi' yfm' yce' := by
  obtain ⟨a1, a2, a3, a4⟩ := H.1 r hr
  have b1 := H.2.1
  obtain ⟨s1, s2, s3, s4, s5⟩ := S
  refine sf_Regs_upd hr H (fun s hs z => ⟨rfl, pk_un z, pk_un z, pk_un z, (hy s hs).1, (hy s hs).2 z⟩) (fun k hk => ?_) hY2 2 w h g ⟨by rw [a1, e0], pk_us, pk_us, pk_us, by rw [(hy r hr).1, e0], q⟩ ⟨s3, s4, s1, s2, Or.inr (Or.inr ⟨rfl, hg⟩)⟩ (fun a b ha hb hz => ?_)
  · by_cases z : 36 * r ≤ k ∧ k < 36 * r + 36
    · obtain ⟨a, b, ha, hb, rfl⟩ : ∃ a b, a < 6 ∧ b < 6 ∧ k = 36 * r + 6 * a + b := ⟨(k - 36 * r) / 6, (k - 36 * r) % 6, by omega, by omega, by omega⟩
      rw [hX a b ha hb, hY a b ha hb]
      exact b1 _ (by omega)
    · rw [hX2 k (by omega), hY2 k hk (by omega)]
      exact b1 k hk
  · show yce' (36 * r + (6 * a + b)) = 0
    rw [← Nat.add_assoc, hY a b ha hb, Nat.add_assoc]
    exact O b a hb ha (by omega)
end
section
/-- the component's values are the reference's at the ends of the elements -/
def sf_V (kd : Nat → Int32) (i : Nat) (xv yv : Nat → Int32) : Prop := ∀ k, k < sf_H kd i → xv k = yv (sf_E kd i (k + 1) - 1)
theorem sf_V_s {kd : Nat → Int32} {i : Nat} {xv yv : Nat → Int32} (hv : sf_V kd i xv yv) (ht : sf_ar (kd i) ≤ sf_H kd i) (x : Int32) : sf_V kd (i + 1) (upd xv (sf_H kd i - sf_ar (kd i)) x) (upd yv i x) := by
  intro k hk
  have eH := sf_H_s kd i
  by_cases e : k = sf_H kd i - sf_ar (kd i)
  · rw [e, pk_us, sf_E_ge (by omega), Nat.add_sub_cancel, pk_us]
  · have h1 := sf_E_step kd i k (by omega)
    have h2 := sf_E_le kd i (k + 1)
    rw [pk_un e, sf_E_lt (by omega), pk_un (by omega)]
    exact hv k (by omega)
theorem sf_V_top {kd : Nat → Int32} {i : Nat} {xv yv : Nat → Int32} (hv : sf_V kd i xv yv) (h : 1 ≤ sf_H kd i) : xv (sf_H kd i - 1) = yv (i - 1) := by
  rw [hv _ (by omega), show sf_H kd i - 1 + 1 = sf_H kd i by omega, sf_E_top]
theorem sf_V_2 {kd : Nat → Int32} {i : Nat} {xv yv : Nat → Int32} (hv : sf_V kd i xv yv) (h : 2 ≤ sf_H kd i) : xv (sf_H kd i - 2) = yv (sf_E kd i (sf_H kd i - 1) - 1) := by
  rw [hv _ (by omega), show sf_H kd i - 2 + 1 = sf_H kd i - 1 by omega]
theorem sf_V_0 (kd xv yv : Nat → Int32) : sf_V kd 0 xv yv := fun k h => absurd h (Nat.not_lt_zero k)
theorem sf_szi {n c : Nat} {xk xa ykd ynu ysz : Nat → Int32} (hp : ∀ i, i < n → sf_Pt c xk xa ykd ynu ysz i) {i : Nat} (hi : i ≤ n) (h : 2 ≤ sf_H ykd i) : 1 ≤ i ∧ 1 ≤ sf_E ykd i (sf_H ykd i - 1) ∧ sf_E ykd i (sf_H ykd i - 1) < i ∧ ysz (i - 1) = nI (i - sf_E ykd i (sf_H ykd i - 1)) := by
  have h0 : i ≠ 0 := by
    intro e
    rw [e, sf_H_0] at h
    omega
  have h1 := sf_E_step ykd i (sf_H ykd i - 1) (by omega)
  have h2 := sf_E_step ykd i (sf_H ykd i - 2) (by omega)
  rw [show sf_H ykd i - 1 + 1 = sf_H ykd i by omega, sf_E_top] at h1
  rw [show sf_H ykd i - 2 + 1 = sf_H ykd i - 1 by omega] at h2
  refine ⟨by omega, by omega, h1, ?_⟩
  have := (hp (i - 1) (by omega)).2.2.1
  rw [show i - 1 + 1 = i by omega] at this
  exact this
theorem sf_H6 {n c : Nat} {xk xa ykd ynu ysz : Nat → Int32} (hp : ∀ i, i < n → sf_Pt c xk xa ykd ynu ysz i) {i : Nat} (hi : i ≤ n) : sf_H ykd i ≤ 6 := by
  cases i with
  | zero => exact Nat.zero_le 6
  | succ i => exact (hp i (by omega)).2.1
/-- an index's number, 0 for none -/
def sf_at (x : Int32) (t : Nat → Nat) : Nat := if x = -1 then 0 else t x.toNatClampNeg
theorem sf_at_n (t : Nat → Nat) : sf_at (-1) t = 0 := if_pos rfl
theorem sf_at_p (t : Nat → Nat) : ∀ {p : Nat}, p < 3 → sf_at (nI p) t = t p := by
  intro p hp
  have h : ∀ p, p < 3 → ¬ nI p = -1 := by decide
  unfold sf_at
  rw [if_neg (h p hp), nI_clamp (by omega)]
theorem sf_at_lt {x : Int32} {t : Nat → Nat} (hx : sf_id x) (ht : ∀ p, p < 3 → t p < 6) : sf_at x t < 6 := by
  rcases hx with rfl | ⟨p, hp, rfl⟩
  · rw [sf_at_n]; omega
  · rw [sf_at_p t hp]; exact ht p hp
/-- what a line gives to the room -/
def sf_tm (f : Nat) (L own : Int32) : Int32 := if f % 2 = 1 then own else if (0 < own ∨ f / 2 % 2 = 0) then L else 0
end
section
/-- the relation: equal registers, and one row of parts told in two ways -/
def i_Rel (_ : Nat) (u : SX) (v : SY) : Prop := match u with
  | (xP, xD, xC, xrk, xrw, xcl, xfm, xnm, xk, xa, xcp, xfi, xse, xsp, xin, xva) => match v with
    | (yP, yA, yD, yrk, yrw, ywi, yfm, yce, ykd, ynu, ysz, yva, yfi, yse, yat, ysp) => ∃ n c d : Nat, (xP = nI n ∧ xD = nI d ∧ xC = nI c ∧ yP = nI n ∧ yA = nI c ∧ yD = nI d) ∧ sf_Regs xrk xrw xcl xfm xnm yrk yrw ywi yfm yce ∧ sf_Form n c d xk xa xcp xfi xse xsp yce ykd ynu ysz yfi yse yrw ywi
theorem i_up {k : Nat} {u : SX} {v : SY} (h : i_Rel k u v) : i_Rel (k + 5) u v := h
theorem sf_mk {k n c d : Nat} {xrk xrw xcl xfm xnm xk xa xcp xfi xse xsp xin xva yrk yrw ywi yfm yce ykd ynu ysz yva yfi yse yat ysp : Nat → Int32} (G : sf_Regs xrk xrw xcl xfm xnm yrk yrw ywi yfm yce) (F : sf_Form n c d xk xa xcp xfi xse xsp yce ykd ynu ysz yfi yse yrw ywi) : i_Rel k (nI n, nI d, nI c, xrk, xrw, xcl, xfm, xnm, xk, xa, xcp, xfi, xse, xsp, xin, xva) (nI n, nI c, nI d, yrk, yrw, ywi, yfm, yce, ykd, ynu, ysz, yva, yfi, yse, yat, ysp) :=
  ⟨n, c, d, ⟨rfl, rfl, rfl, rfl, rfl, rfl⟩, G, F⟩
def sf_rg (r : Int32) : Prop := ∃ k : Nat, k < 6 ∧ r = nI k
theorem sx_reg_t {post : Int32 → Prop} {k : Nat} (h : k < 6) (p : post 1) : wpX_isRegister post (nI k) :=
  br_f (nI_pos (by omega)) (br_f (nI_ge (b := 6) h (by decide)) p)
theorem sx_reg_f {post : Int32 → Prop} {r : Int32} (h : ¬ sf_rg r) (p : post 0) : wpX_isRegister post r := by
  rcases pk_ix r (n := 6) (by decide) with z | z | ⟨j, hj, e⟩
  · exact br_t z p
  · exact br_c (fun _ => p) (fun _ => br_t z p)
  · exact absurd ⟨j, hj, e⟩ h
theorem sy_reg_t {post : Int32 → Prop} {v : SY} {k : Nat} (h : k < 6) (p : post 1) : wpY_isRegister post v (nI k) := by
  obtain ⟨yP, yA, yD, yrk, yrw, ywi, yfm, yce, ykd, ynu, ysz, yva, yfi, yse, yat, ysp⟩ := v
  exact br_f (nI_pos (by omega)) (br_f (nI_nlt (a := 5) (b := k) (by omega) (by omega)) p)
theorem sy_reg_f {post : Int32 → Prop} {v : SY} {r : Int32} (h : ¬ sf_rg r) (p : post 0) : wpY_isRegister post v r := by
  obtain ⟨yP, yA, yD, yrk, yrw, ywi, yfm, yce, ykd, ynu, ysz, yva, yfi, yse, yat, ysp⟩ := v
  rcases pk_ix r (n := 6) (by decide) with z | z | ⟨j, hj, e⟩
  · exact br_t z p
  · refine br_c (fun _ => p) (fun h0 => br_t ?_ p)
    obtain ⟨j, hj, rfl⟩ := nI_of h0
    have := (nI_leI (a := 6) (b := j) (by decide) hj).mp z
    exact nI_lt (a := 5) (b := j) (by omega) hj
  · exact absurd ⟨j, hj, e⟩ h
def sf_fm (k : Nat) : Nat := if k = 0 then 0 else if k = 1 then 1 else 7
def sf_fg (k : Nat) (f : Int32) : Prop := ∃ j : Nat, j ≤ sf_fm k ∧ f = nI j
theorem sx_fmt19_t {post : Int32 → Prop} {m j : Nat} (h : j ≤ m) (hm : m ≤ 7) (p : post 1) : wX_isFormat_19 post (nI j) (nI m) :=
  br_f (nI_pos (by omega)) (br_f (nI_nlt (a := m) (b := j) h (by omega)) p)
theorem sx_fmt19_f {post : Int32 → Prop} {m : Nat} {f : Int32} (hm : m ≤ 7) (h : ¬ ∃ j : Nat, j ≤ m ∧ f = nI j) (p : post 0) : wX_isFormat_19 post f (nI m) := by
  refine br_c (fun _ => p) (fun h0 => br_t ?_ p)
  obtain ⟨j, hj, rfl⟩ := nI_of h0
  exact nI_lt (a := m) (b := j) (by
    have : ¬ j ≤ m := fun z => h ⟨j, z, rfl⟩
    omega) hj
theorem sx_fmt_t {post : Int32 → Prop} {k j : Nat} (hk : k ≤ 2) (h : j ≤ sf_fm k) (p : post 1) : wpX_isFormat post (nI k) (nI j) := by
  match k, hk, h with
  | 0, _, h => exact br_t rfl (sx_fmt19_t (m := 0) h (by decide) p)
  | 1, _, h => exact br_f (by decide) (br_t rfl (sx_fmt19_t (m := 1) h (by decide) p))
  | 2, _, h => exact br_f (by decide) (br_f (by decide) (sx_fmt19_t (m := 7) h (by decide) p))
theorem sx_fmt_f {post : Int32 → Prop} {k : Nat} {f : Int32} (hk : k ≤ 2) (h : ¬ sf_fg k f) (p : post 0) : wpX_isFormat post (nI k) f := by
  match k, hk, h with
  | 0, _, h => exact br_t rfl (sx_fmt19_f (m := 0) (by decide) h p)
  | 1, _, h => exact br_f (by decide) (br_t rfl (sx_fmt19_f (m := 1) (by decide) h p))
  | 2, _, h => exact br_f (by decide) (br_f (by decide) (sx_fmt19_f (m := 7) (by decide) h p))
theorem sy_fmt_t {post : Int32 → Prop} {v : SY} {k j : Nat} (hk : k ≤ 2) (h : j ≤ sf_fm k) (p : post 1) : wpY_isFormat post v (nI k) (nI j) := by
  obtain ⟨yP, yA, yD, yrk, yrw, ywi, yfm, yce, ykd, ynu, ysz, yva, yfi, yse, yat, ysp⟩ := v
  have h7 : sf_fm k ≤ 7 := by
    unfold sf_fm
    split
    · omega
    · split <;> omega
  have h0 : ¬ nI j < 0 := nI_pos (by omega)
  match k, hk, h with
  | 0, _, h => exact br_f h0 (br_t rfl (br_f (nI_nlt (a := 0) (b := j) h (by omega)) p))
  | 1, _, h => exact br_f h0 (br_f (by decide) (br_t rfl (br_f (nI_nlt (a := 1) (b := j) h (by omega)) p)))
  | 2, _, h => exact br_f h0 (br_f (by decide) (br_f (by decide) (br_f (nI_nlt (a := 7) (b := j) h (by omega)) p)))
theorem sy_fmt_f {post : Int32 → Prop} {v : SY} {k : Nat} {f : Int32} (hk : k ≤ 2) (h : ¬ sf_fg k f) (p : post 0) : wpY_isFormat post v (nI k) f := by
  obtain ⟨yP, yA, yD, yrk, yrw, ywi, yfm, yce, ykd, ynu, ysz, yva, yfi, yse, yat, ysp⟩ := v
  refine br_c (fun _ => p) (fun h0 => ?_)
  obtain ⟨j, hj, rfl⟩ := nI_of h0
  have hn : ¬ j ≤ sf_fm k := fun z => h ⟨j, z, rfl⟩
  match k, hk, hn with
  | 0, _, h => exact br_t rfl (br_t (nI_lt (a := 0) (b := j) (Nat.lt_of_not_le h) hj) p)
  | 1, _, h => exact br_f (by decide) (br_t rfl (br_t (nI_lt (a := 1) (b := j) (Nat.lt_of_not_le h) hj) p))
  | 2, _, h => exact br_f (by decide) (br_f (by decide) (br_t (nI_lt (a := 7) (b := j) (Nat.lt_of_not_le h) hj) p))
/-- a place of a register of h rows and w columns -/
def sf_pl (h w : Nat) (i j : Int32) : Prop := ∃ a b : Nat, a < h ∧ b < w ∧ i = nI a ∧ j = nI b
theorem sx_place_t {post : Int32 → Prop} {xP xD xC : Int32} {xrk xrw xcl xfm xnm xk xa xcp xfi xse xsp xin xva : Nat → Int32} {r h w a b : Nat} (hr : r < 6) (e1 : xrw r = nI h) (e2 : xcl r = nI w) (hh : h ≤ 6) (hw : w ≤ 6) (ha : a < h) (hb : b < w) (p : post 1) : wpX_isPlace post (xP, xD, xC, xrk, xrw, xcl, xfm, xnm, xk, xa, xcp, xfi, xse, xsp, xin, xva) (nI r) (nI a) (nI b) := by
  have hv : vp_in (nI r) 6 := vp_in_nI hr (by decide)
  have ec : (nI r).toNatClampNeg = r := nI_clamp (by omega)
  refine br_f (nI_pos (by omega)) ⟨hv, br_f ?_ (br_f (nI_pos (by omega)) ⟨hv, br_f ?_ p⟩)⟩
  · rw [ec, e1]; exact nI_ge ha (by omega)
  · rw [ec, e2]; exact nI_ge hb (by omega)
theorem sx_place_f {post : Int32 → Prop} {xP xD xC : Int32} {xrk xrw xcl xfm xnm xk xa xcp xfi xse xsp xin xva : Nat → Int32} {r h w : Nat} {i j : Int32} (hr : r < 6) (e1 : xrw r = nI h) (e2 : xcl r = nI w) (hh : h ≤ 6) (hw : w ≤ 6) (hn : ¬ sf_pl h w i j) (p : post 0) : wpX_isPlace post (xP, xD, xC, xrk, xrw, xcl, xfm, xnm, xk, xa, xcp, xfi, xse, xsp, xin, xva) (nI r) i j := by
  have hv : vp_in (nI r) 6 := vp_in_nI hr (by decide)
  have ec : (nI r).toNatClampNeg = r := nI_clamp (by omega)
  refine br_c (fun _ => p) (fun h0 => ⟨hv, br_c (fun _ => p) (fun h1 => br_c (fun _ => p) (fun h2 => ⟨hv, br_c (fun _ => p) (fun h3 => absurd ?_ hn)⟩))⟩)
  obtain ⟨a, ha, rfl⟩ := nI_of h0
  obtain ⟨b, hb, rfl⟩ := nI_of h2
  rw [ec, e1, nI_leI (by omega) ha] at h1
  rw [ec, e2, nI_leI (by omega) hb] at h3
  exact ⟨a, b, by omega, by omega, rfl, rfl⟩
theorem sy_place_t {post : Int32 → Prop} {yP yA yD : Int32} {yrk yrw ywi yfm yce ykd ynu ysz yva yfi yse yat ysp : Nat → Int32} {r h w a b : Nat} (hr : r < 6) (e1 : yrw r = nI h) (e2 : ywi r = nI w) (hh : h ≤ 6) (hw : w ≤ 6) (ha : a < h) (hb : b < w) (p : post 1) : wpY_isPlace post (yP, yA, yD, yrk, yrw, ywi, yfm, yce, ykd, ynu, ysz, yva, yfi, yse, yat, ysp) (nI r) (nI a) (nI b) := by
  have hv : vp_in (nI r) 13 := vp_in_nI (by omega) (by decide)
  have ec : (nI r).toNatClampNeg = r := nI_clamp (by omega)
  refine br_f (nI_pos (by omega)) ⟨hv, br_f ?_ (br_f (nI_pos (by omega)) ⟨hv, br_f ?_ p⟩)⟩
  · rw [ec, e1]; exact nI_ge ha (by omega)
  · rw [ec, e2]; exact nI_ge hb (by omega)
theorem sy_place_f {post : Int32 → Prop} {yP yA yD : Int32} {yrk yrw ywi yfm yce ykd ynu ysz yva yfi yse yat ysp : Nat → Int32} {r h w : Nat} {i j : Int32} (hr : r < 6) (e1 : yrw r = nI h) (e2 : ywi r = nI w) (hh : h ≤ 6) (hw : w ≤ 6) (hn : ¬ sf_pl h w i j) (p : post 0) : wpY_isPlace post (yP, yA, yD, yrk, yrw, ywi, yfm, yce, ykd, ynu, ysz, yva, yfi, yse, yat, ysp) (nI r) i j := by
  have hv : vp_in (nI r) 13 := vp_in_nI (by omega) (by decide)
  have ec : (nI r).toNatClampNeg = r := nI_clamp (by omega)
  refine br_c (fun _ => p) (fun h0 => ⟨hv, br_c (fun _ => p) (fun h1 => br_c (fun _ => p) (fun h2 => ⟨hv, br_c (fun _ => p) (fun h3 => absurd ?_ hn)⟩))⟩)
  obtain ⟨a, ha, rfl⟩ := nI_of h0
  obtain ⟨b, hb, rfl⟩ := nI_of h2
  rw [ec, e1, nI_leI (by omega) ha] at h1
  rw [ec, e2, nI_leI (by omega) hb] at h3
  exact ⟨a, b, by omega, by omega, rfl, rfl⟩
theorem sx_shape {post : SX → Prop} {xP xD xC : Int32} {xrk xrw xcl xfm xnm xk xa xcp xfi xse xsp xin xva : Nat → Int32} {r : Nat} (hr : r < 6) (p1 p2 p3 p4 : Int32) (h : ∀ A, sf_blk (36 * r) 36 (fun _ => 0) xnm A → post (xP, xD, xC, upd xrk r p1, upd xrw r p2, upd xcl r p3, upd xfm r p4, A, xk, xa, xcp, xfi, xse, xsp, xin, xva)) : wpX_shape post (xP, xD, xC, xrk, xrw, xcl, xfm, xnm, xk, xa, xcp, xfi, xse, xsp, xin, xva) (nI r) p1 p2 p3 p4 := by
  have hv : vp_in (nI r) 6 := vp_in_nI hr (by decide)
  have ec : (nI r).toNatClampNeg = r := nI_clamp (by omega)
  refine ⟨hv, nm_r (e' := upd xrk r p1) (by rw [ec]) ⟨hv, nm_r (e' := upd xrw r p2) (by rw [ec]) ⟨hv, nm_r (e' := upd xcl r p3) (by rw [ec]) ⟨hv, nm_r (e' := upd xfm r p4) (by rw [ec]) ?_⟩⟩⟩⟩
  refine pk_loop (fun n i (A : Nat → Int32) => wX_shape_33 post (nI r) xP xD xC n (nI i) (upd xrk r p1) (upd xrw r p2) (upd xcl r p3) (upd xfm r p4) A xk xa xcp xfi xse xsp xin xva) (fun i A => sf_blk (36 * r) i (fun _ => 0) xnm A) 36 0 xnm (by omega) (sf_blk_0 _ _ _) (fun n A hA => br_t (nI_le (a := 36) (b := 36) (by omega) (by decide)) (h A hA)) (fun n i A hi hA k => ?_)
  have e : nI r * 36 + nI i = nI (36 * r + i) := sf_xp r i
  refine br_f (nI_ge (b := 36) hi (by decide)) ⟨by rw [e]; exact vp_in_nI (by omega) (by decide), nm_r (e' := upd A (36 * r + i) 0) (by rw [e, nI_clamp (by omega)]) (nm_r (nI_1 i) (k _ (sf_blk_s hA rfl)))⟩
theorem sy_shape {post : SY → Prop} {yP yA yD : Int32} {yrk yrw ywi yfm yce ykd ynu ysz yva yfi yse yat ysp : Nat → Int32} {r : Nat} (hr : r < 13) (n m f : Int32) (h : ∀ A, sf_blk (36 * r) 36 (fun _ => 0) yce A → post (yP, yA, yD, upd yrk r (if n = 0 then 0 else if m = 0 then 1 else 2), upd yrw r (if n = 0 then 1 else n), upd ywi r (if m = 0 then 1 else m), upd yfm r f, A, ykd, ynu, ysz, yva, yfi, yse, yat, ysp)) : wpY_shape post (yP, yA, yD, yrk, yrw, ywi, yfm, yce, ykd, ynu, ysz, yva, yfi, yse, yat, ysp) (nI r) n m f := by
  have hv : vp_in (nI r) 13 := vp_in_nI hr (by decide)
  have ec : (nI r).toNatClampNeg = r := nI_clamp (by omega)
  have main : ∀ a b c : Int32, (∀ A, sf_blk (36 * r) 36 (fun _ => 0) yce A → post (yP, yA, yD, upd yrk r a, upd yrw r b, upd ywi r c, upd yfm r f, A, ykd, ynu, ysz, yva, yfi, yse, yat, ysp)) → wY_shape_52 post (nI r) f c (nI r) yP yA yD (upd yrk r a) (upd yrw r b) ywi yfm yce ykd ynu ysz yva yfi yse yat ysp := by
    intro a b c h
    refine ⟨hv, nm_r (e' := upd ywi r c) (by rw [ec]) ⟨hv, nm_r (e' := upd yfm r f) (by rw [ec]) ?_⟩⟩
    refine pk_loop (fun n i (A : Nat → Int32) => wY_shape_64 post (nI r) yP yA yD n (nI i) (upd yrk r a) (upd yrw r b) (upd ywi r c) (upd yfm r f) A ykd ynu ysz yva yfi yse yat ysp) (fun i A => sf_blk (36 * r) i (fun _ => 0) yce A) 36 0 yce (by omega) (sf_blk_0 _ _ _) (fun n A hA => br_t (nI_le (a := 36) (b := 36) (by omega) (by decide)) (h A hA)) (fun n i A hi hA k => ?_)
    have e : 36 * nI r + nI i = nI (36 * r + i) := sf_yp r i
    refine br_f (nI_ge (b := 36) hi (by decide)) ⟨by rw [e]; exact vp_in_nI (by omega) (by decide), nm_r (e' := upd A (36 * r + i) 0) (by rw [e, nI_clamp (by omega)]) (nm_r (nI_1 i) (k _ (sf_blk_s hA rfl)))⟩
  have m2 : ∀ a b : Int32, (∀ A, sf_blk (36 * r) 36 (fun _ => 0) yce A → post (yP, yA, yD, upd yrk r a, upd yrw r b, upd ywi r (if m = 0 then 1 else m), upd yfm r f, A, ykd, ynu, ysz, yva, yfi, yse, yat, ysp)) → wY_shape_37 post (nI r) m f b (nI r) yP yA yD (upd yrk r a) yrw ywi yfm yce ykd ynu ysz yva yfi yse yat ysp := by
    intro a b h
    refine ⟨hv, nm_r (e' := upd yrw r b) (by rw [ec]) (br_c (fun z => ?_) (fun z => ?_))⟩
    · rw [if_pos z] at h; exact main a b 1 h
    · rw [if_neg z] at h; exact main a b m h
  have m3 : ∀ a : Int32, (∀ A, sf_blk (36 * r) 36 (fun _ => 0) yce A → post (yP, yA, yD, upd yrk r a, upd yrw r (if n = 0 then 1 else n), upd ywi r (if m = 0 then 1 else m), upd yfm r f, A, ykd, ynu, ysz, yva, yfi, yse, yat, ysp)) → wY_shape_22 post (nI r) n m f a (nI r) yP yA yD yrk yrw ywi yfm yce ykd ynu ysz yva yfi yse yat ysp := by
    intro a h
    refine ⟨hv, nm_r (e' := upd yrk r a) (by rw [ec]) (br_c (fun z => ?_) (fun z => ?_))⟩
    · rw [if_pos z] at h; exact m2 a 1 h
    · rw [if_neg z] at h; exact m2 a n h
  refine br_c (fun z => m3 0 ?_) (fun z => br_c (fun z2 => m3 1 ?_) (fun z2 => m3 2 ?_))
  · rw [if_pos z] at h; exact h
  · rw [if_neg z, if_pos z2] at h; exact h
  · rw [if_neg z, if_neg z2] at h; exact h
end
section
def sf_rk (n m : Nat) : Nat := if n = 0 then 0 else if m = 0 then 1 else 2
theorem sf_rk_le (n m : Nat) : sf_rk n m ≤ 2 := by
  unfold sf_rk
  split
  · omega
  · split <;> omega
def sf_mok (v1 v2 v3 v4 : Int32) : Prop := ∃ r n m j : Nat, r < 6 ∧ n ≤ 6 ∧ m ≤ 6 ∧ (n = 0 → m = 0) ∧ j ≤ sf_fm (sf_rk n m) ∧ v1 = nI r ∧ v2 = nI n ∧ v3 = nI m ∧ v4 = nI j
theorem sx_make38 {post : Int32 → SX → Prop} {xP xD xC : Int32} {xrk xrw xcl xfm xnm xk xa xcp xfi xse xsp xin xva : Nat → Int32} {x1 x4 : Int32} {n m : Nat} (hn : n ≤ 6) (hm : m ≤ 6) (h : wX_make_55 post x1 (nI n) (nI m) x4 (nI (sf_rk n m)) xP xD xC xrk xrw xcl xfm xnm xk xa xcp xfi xse xsp xin xva) : wX_make_38 post x1 (nI n) (nI m) x4 xP xD xC xrk xrw xcl xfm xnm xk xa xcp xfi xse xsp xin xva := by
  unfold sf_rk at h
  by_cases z : n = 0
  · subst z
    rw [if_pos rfl] at h
    exact br_t rfl h
  · have z' : ¬ nI n = 0 := nI_ne0 (by omega) (by omega)
    rw [if_neg z] at h
    by_cases z2 : m = 0
    · subst z2
      rw [if_pos rfl] at h
      exact br_f z' (br_t rfl h)
    · rw [if_neg z2] at h
      exact br_f z' (br_f (nI_ne0 (by omega) (by omega)) h)
theorem sx_make_bad {post : Int32 → SX → Prop} {xP xD xC : Int32} {xrk xrw xcl xfm xnm xk xa xcp xfi xse xsp xin xva : Nat → Int32} {v1 v2 v3 v4 : Int32} (hn : ¬ sf_mok v1 v2 v3 v4) (p : post (-1000000001) (xP, xD, xC, xrk, xrw, xcl, xfm, xnm, xk, xa, xcp, xfi, xse, xsp, xin, xva)) : wpX_make post (xP, xD, xC, xrk, xrw, xcl, xfm, xnm, xk, xa, xcp, xfi, xse, xsp, xin, xva) v1 v2 v3 v4 := by
  unfold wpX_make
  dsimp only
  by_cases hr : sf_rg v1
  · obtain ⟨r, hr, rfl⟩ := hr
    refine sx_reg_t hr (br_f (by decide) (br_c (fun _ => p) (fun h1 => br_c (fun _ => p) (fun h2 => br_c (fun _ => p) (fun h3 => br_c (fun _ => p) (fun h4 => ?_))))))
    obtain ⟨n, hn1, rfl⟩ := nI_of h1
    obtain ⟨m, hm1, rfl⟩ := nI_of h3
    have hn6 : n ≤ 6 := Nat.not_lt.mp (fun z => h2 (nI_lt (a := 6) z hn1))
    have hm6 : m ≤ 6 := Nat.not_lt.mp (fun z => h4 (nI_lt (a := 6) z hm1))
    have H : (n = 0 → m = 0) → wX_make_38 post (nI r) (nI n) (nI m) v4 xP xD xC xrk xrw xcl xfm xnm xk xa xcp xfi xse xsp xin xva := fun hz =>
      sx_make38 hn6 hm6 (sx_fmt_f (sf_rk_le n m) (fun ⟨j, hj, e⟩ => hn ⟨r, n, m, j, hr, hn6, hm6, hz, hj, rfl, rfl, rfl, e⟩) (br_t rfl p))
    refine br_c (fun z => br_c (fun z2 => H (fun _ => (nI_eq (b := 0) hm1 (by decide)).mp z2)) (fun _ => p)) (fun z => H (fun e => absurd (by rw [e]; rfl) z))
  · exact sx_reg_f hr (br_t rfl p)
theorem sx_make_ok {post : Int32 → SX → Prop} {xP xD xC : Int32} {xrk xrw xcl xfm xnm xk xa xcp xfi xse xsp xin xva : Nat → Int32} {r n m j : Nat} (hr : r < 6) (hn : n ≤ 6) (hm : m ≤ 6) (hz : n = 0 → m = 0) (hj : j ≤ sf_fm (sf_rk n m)) (h : ∀ A, sf_blk (36 * r) 36 (fun _ => 0) xnm A → post (nI (sf_rk n m)) (xP, xD, xC, upd xrk r (nI (sf_rk n m)), upd xrw r (nI (if n = 0 then 1 else n)), upd xcl r (nI (if m = 0 then 1 else m)), upd xfm r (nI j), A, xk, xa, xcp, xfi, xse, xsp, xin, xva)) : wpX_make post (xP, xD, xC, xrk, xrw, xcl, xfm, xnm, xk, xa, xcp, xfi, xse, xsp, xin, xva) (nI r) (nI n) (nI m) (nI j) := by
  have H : wX_make_38 post (nI r) (nI n) (nI m) (nI j) xP xD xC xrk xrw xcl xfm xnm xk xa xcp xfi xse xsp xin xva := by
    refine sx_make38 hn hm (sx_fmt_t (sf_rk_le n m) hj (br_f (by decide) ?_))
    have H2 : ∀ a : Nat, (∀ A, sf_blk (36 * r) 36 (fun _ => 0) xnm A → post (nI (sf_rk n m)) (xP, xD, xC, upd xrk r (nI (sf_rk n m)), upd xrw r (nI a), upd xcl r (nI (if m = 0 then 1 else m)), upd xfm r (nI j), A, xk, xa, xcp, xfi, xse, xsp, xin, xva)) → wX_make_79 post (nI r) (nI m) (nI j) (nI (sf_rk n m)) (nI a) xP xD xC xrk xrw xcl xfm xnm xk xa xcp xfi xse xsp xin xva := by
      intro a h
      by_cases z : m = 0
      · subst z
        rw [if_pos rfl] at h
        exact br_t rfl (sx_shape hr _ _ _ _ h)
      · rw [if_neg z] at h
        exact br_f (nI_ne0 (by omega) (by omega)) (sx_shape hr _ _ _ _ h)
    by_cases z : n = 0
    · rw [if_pos z] at h
      exact br_t (by rw [z]; rfl) (H2 1 h)
    · rw [if_neg z] at h
      exact br_f (nI_ne0 (by omega) (by omega)) (H2 n h)
  unfold wpX_make
  dsimp only
  refine sx_reg_t hr (br_f (by decide) (br_f (nI_pos (by omega)) (br_f (nI_nlt (a := 6) hn (by decide)) (br_f (nI_pos (by omega)) (br_f (nI_nlt (a := 6) hm (by decide)) ?_)))))
  by_cases z : n = 0
  · exact br_t (by rw [z]; rfl) (br_t (by rw [hz z]; rfl) H)
  · exact br_f (nI_ne0 (by omega) (by omega)) H
theorem sy_make40 {post : Int32 → SY → Prop} {yP yA yD : Int32} {yrk yrw ywi yfm yce ykd ynu ysz yva yfi yse yat ysp : Nat → Int32} {v1 v2 v3 v4 : Int32} (p : post (-1000000001) (yP, yA, yD, yrk, yrw, ywi, yfm, yce, ykd, ynu, ysz, yva, yfi, yse, yat, ysp)) : wY_make_40 post v1 v2 v3 v4 yP yA yD yrk yrw ywi yfm yce ykd ynu ysz yva yfi yse yat ysp :=
  br_c (fun _ => br_t rfl p) (fun _ => br_c (fun _ => br_t rfl p) (fun _ => br_t rfl p))
theorem sy_make41 {post : Int32 → SY → Prop} {yP yA yD : Int32} {yrk yrw ywi yfm yce ykd ynu ysz yva yfi yse yat ysp : Nat → Int32} {x1 x4 z : Int32} {n m : Nat} (hn : n ≤ 6) (hm : m ≤ 6) (h : wY_make_60 post x1 (nI n) (nI m) x4 z (nI (sf_rk n m)) yP yA yD yrk yrw ywi yfm yce ykd ynu ysz yva yfi yse yat ysp) : wY_make_41 post x1 (nI n) (nI m) x4 z yP yA yD yrk yrw ywi yfm yce ykd ynu ysz yva yfi yse yat ysp := by
  unfold sf_rk at h
  by_cases z : n = 0
  · subst z
    rw [if_pos rfl] at h
    exact br_t rfl h
  · have z' : ¬ nI n = 0 := nI_ne0 (by omega) (by omega)
    rw [if_neg z] at h
    by_cases z2 : m = 0
    · subst z2
      rw [if_pos rfl] at h
      exact br_f z' (br_t rfl h)
    · rw [if_neg z2] at h
      exact br_f z' (br_f (nI_ne0 (by omega) (by omega)) h)
theorem sy_make_bad {post : Int32 → SY → Prop} {yP yA yD : Int32} {yrk yrw ywi yfm yce ykd ynu ysz yva yfi yse yat ysp : Nat → Int32} {v1 v2 v3 v4 : Int32} (hn : ¬ sf_mok v1 v2 v3 v4) (q : post (-1000000001) (yP, yA, yD, yrk, yrw, ywi, yfm, yce, ykd, ynu, ysz, yva, yfi, yse, yat, ysp)) : wpY_make post (yP, yA, yD, yrk, yrw, ywi, yfm, yce, ykd, ynu, ysz, yva, yfi, yse, yat, ysp) v1 v2 v3 v4 := by
  have p : wY_make_40 post v1 v2 v3 v4 yP yA yD yrk yrw ywi yfm yce ykd ynu ysz yva yfi yse yat ysp := sy_make40 q
  unfold wpY_make
  dsimp only
  by_cases hr : sf_rg v1
  · obtain ⟨r, hr, rfl⟩ := hr
    refine sy_reg_t hr (br_f (by decide) (br_c (fun _ => p) (fun h1 => br_c (fun _ => p) (fun h2 => br_c (fun _ => p) (fun h3 => br_c (fun _ => p) (fun h4 => ?_))))))
    obtain ⟨n, hn1, rfl⟩ := nI_of h1
    obtain ⟨m, hm1, rfl⟩ := nI_of h3
    have hn6 : n ≤ 6 := Nat.not_lt.mp (fun z => h2 (nI_lt (a := 6) z hn1))
    have hm6 : m ≤ 6 := Nat.not_lt.mp (fun z => h4 (nI_lt (a := 6) z hm1))
    have H : (n = 0 → m = 0) → wY_make_36 post (nI r) (nI n) (nI m) v4 yP yA yD yrk yrw ywi yfm yce ykd ynu ysz yva yfi yse yat ysp := fun hz =>
      sy_make41 hn6 hm6 (br_f (by decide) (sy_fmt_f (sf_rk_le n m) (fun ⟨j, hj, e⟩ => hn ⟨r, n, m, j, hr, hn6, hm6, hz, hj, rfl, rfl, rfl, e⟩) (br_t rfl q)))
    refine br_c (fun z => H (fun e => ?_)) (fun z => br_c (fun z2 => H (fun _ => (nI_eq (b := 0) hm1 (by decide)).mp z2)) (fun _ => p))
    rw [e] at z
    exact absurd z (by decide)
  · exact sy_reg_f hr (br_t rfl p)
theorem sf_ifn {n : Nat} (hn : n ≤ 6) : (if nI n = 0 then (1 : Int32) else nI n) = nI (if n = 0 then 1 else n) := by
  by_cases z : n = 0
  · rw [if_pos z, if_pos (by rw [z]; rfl)]; rfl
  · rw [if_neg z, if_neg (nI_ne0 (by omega) (by omega))]
theorem sf_ifr {n m : Nat} (hn : n ≤ 6) (hm : m ≤ 6) : (if nI n = 0 then (0 : Int32) else if nI m = 0 then 1 else 2) = nI (sf_rk n m) := by
  unfold sf_rk
  by_cases z : n = 0
  · rw [if_pos z, if_pos (by rw [z]; rfl)]; rfl
  · rw [if_neg z, if_neg (nI_ne0 (by omega) (by omega))]
    by_cases z2 : m = 0
    · rw [if_pos z2, if_pos (by rw [z2]; rfl)]; rfl
    · rw [if_neg z2, if_neg (nI_ne0 (by omega) (by omega))]; rfl
/-- the reference's shape, in numbers -/
theorem sy_shapeN {post : SY → Prop} {yP yA yD : Int32} {yrk yrw ywi yfm yce ykd ynu ysz yva yfi yse yat ysp : Nat → Int32} {r n m : Nat} {f : Int32} (hr : r < 13) (hn : n ≤ 6) (hm : m ≤ 6) (h : ∀ A, sf_blk (36 * r) 36 (fun _ => 0) yce A → post (yP, yA, yD, upd yrk r (nI (sf_rk n m)), upd yrw r (nI (if n = 0 then 1 else n)), upd ywi r (nI (if m = 0 then 1 else m)), upd yfm r f, A, ykd, ynu, ysz, yva, yfi, yse, yat, ysp)) : wpY_shape post (yP, yA, yD, yrk, yrw, ywi, yfm, yce, ykd, ynu, ysz, yva, yfi, yse, yat, ysp) (nI r) (nI n) (nI m) f := by
  apply sy_shape hr
  rw [sf_ifn hn, sf_ifn hm, sf_ifr hn hm]
  exact h
theorem sy_make_ok {post : Int32 → SY → Prop} {yP yA yD : Int32} {yrk yrw ywi yfm yce ykd ynu ysz yva yfi yse yat ysp : Nat → Int32} {r n m j : Nat} (hr : r < 6) (hn : n ≤ 6) (hm : m ≤ 6) (hz : n = 0 → m = 0) (hj : j ≤ sf_fm (sf_rk n m)) (h : ∀ A, sf_blk (36 * r) 36 (fun _ => 0) yce A → post (nI (sf_rk n m)) (yP, yA, yD, upd yrk r (nI (sf_rk n m)), upd yrw r (nI (if n = 0 then 1 else n)), upd ywi r (nI (if m = 0 then 1 else m)), upd yfm r (nI j), A, ykd, ynu, ysz, yva, yfi, yse, yat, ysp)) : wpY_make post (yP, yA, yD, yrk, yrw, ywi, yfm, yce, ykd, ynu, ysz, yva, yfi, yse, yat, ysp) (nI r) (nI n) (nI m) (nI j) := by
  have H : wY_make_36 post (nI r) (nI n) (nI m) (nI j) yP yA yD yrk yrw ywi yfm yce ykd ynu ysz yva yfi yse yat ysp :=
    sy_make41 hn hm (br_f (by decide) (sy_fmt_t (sf_rk_le n m) hj (br_f (by decide) (sy_shapeN (by omega) hn hm h))))
  unfold wpY_make
  dsimp only
  refine sy_reg_t hr (br_f (by decide) (br_f (nI_pos (by omega)) (br_f (nI_nlt (a := 6) hn (by decide)) (br_f (nI_pos (by omega)) (br_f (nI_nlt (a := 6) hm (by decide)) ?_)))))
  by_cases z : n = 0
  · exact br_f (by rw [z]; decide) (br_t (by rw [hz z]; rfl) H)
  · exact br_t (nI_lt (a := 0) (by omega) (by omega)) H
theorem sf_Sh_mk {n m j : Nat} (hn : n ≤ 6) (hm : m ≤ 6) (hz : n = 0 → m = 0) (hj : j ≤ sf_fm (sf_rk n m)) : sf_Sh (sf_rk n m) (if n = 0 then 1 else n) (if m = 0 then 1 else m) j := by
  unfold sf_rk at hj
  unfold sf_Sh sf_rk
  by_cases z : n = 0
  · rw [if_pos z] at hj
    have hj' : j ≤ 0 := hj
    rw [if_pos z, if_pos z, if_pos (hz z)]
    omega
  · rw [if_neg z] at hj
    rw [if_neg z, if_neg z]
    by_cases z2 : m = 0
    · rw [if_pos z2] at hj
      have hj' : j ≤ 1 := hj
      rw [if_pos z2, if_pos z2]
      omega
    · rw [if_neg z2] at hj
      have hj' : j ≤ 7 := hj
      rw [if_neg z2, if_neg z2]
      omega
theorem sf_Form_shape {n c d r : Nat} (hr : r < 6) {xk xa xcp xfi xse xsp yce ykd ynu ysz yfi yse yrw ywi yce' : Nat → Int32} {a b : Int32} (F : sf_Form n c d xk xa xcp xfi xse xsp yce ykd ynu ysz yfi yse yrw ywi) {g : Nat → Int32} (h : sf_blk (36 * r) 36 g yce yce') : sf_Form n c d xk xa xcp xfi xse xsp yce' ykd ynu ysz yfi yse (upd yrw r a) (upd ywi r b) :=
  sf_Form_cg F (fun k h1 _ => h.2 k (by omega)) (fun s h1 _ => pk_un (by omega)) (fun s h1 _ => pk_un (by omega))
theorem i_vc_make {k : Nat} {u : SX} {v : SY} (I : i_Rel k u v) (hk : k + 5 ≤ 2560) (v1 : Int32) (v2 : Int32) (v3 : Int32) (v4 : Int32) : wpX_make (fun r u' => wpY_make (fun r' v' => r' = r ∧ i_Rel (k + 5) u' v') v v1 v2 v3 v4) u v1 v2 v3 v4 := by
  obtain ⟨xP, xD, xC, xrk, xrw, xcl, xfm, xnm, xk, xa, xcp, xfi, xse, xsp, xin, xva⟩ := u
  obtain ⟨yP, yA, yD, yrk, yrw, ywi, yfm, yce, ykd, ynu, ysz, yva, yfi, yse, yat, ysp⟩ := v
  have I0 := I
  obtain ⟨n, c, d, ⟨rfl, rfl, rfl, rfl, rfl, rfl⟩, G, F⟩ := I
  by_cases hm : sf_mok v1 v2 v3 v4
  · obtain ⟨r, n', m, j, hr, hn, hm, hz, hj, rfl, rfl, rfl, rfl⟩ := hm
    exact sx_make_ok hr hn hm hz hj (fun A hA => sy_make_ok hr hn hm hz hj (fun B hB => ⟨rfl, sf_mk (sf_Regs_shape hr G (sf_Sh_mk hn hm hz hj) hA hB) (sf_Form_shape hr F hB)⟩))
  · exact sx_make_bad hm (sy_make_bad hm ⟨rfl, I0⟩)
end
section
theorem sf_reg {xrk xrw xcl xfm xnm yrk yrw ywi yfm yce : Nat → Int32} (G : sf_Regs xrk xrw xcl xfm xnm yrk yrw ywi yfm yce) {r : Nat} (hr : r < 6) : ∃ k h w f : Nat, xrk r = nI k ∧ xrw r = nI h ∧ xcl r = nI w ∧ xfm r = nI f ∧ yrk r = nI k ∧ yrw r = nI h ∧ ywi r = nI w ∧ yfm r = nI f ∧ sf_Sh k h w f ∧ sf_Out h w (fun i => yce (36 * r + i)) ∧ sf_Out h w (fun i => xnm (36 * r + i)) := by
  obtain ⟨k, h, w, f, p1, p2, p3, p4, S, O⟩ := G.2.2 r hr
  obtain ⟨a1, a2, a3, a4⟩ := G.1 r hr
  refine ⟨k, h, w, f, by rw [a1, p1], by rw [a2, p2], by rw [a3, p3], by rw [a4, p4], p1, p2, p3, p4, S, O, fun i j hi hj hz => ?_⟩
  show xnm (36 * r + (6 * i + j)) = 0
  rw [G.2.1 _ (by omega)]
  exact O i j hi hj hz
theorem i_vc_get {k : Nat} {u : SX} {v : SY} (I : i_Rel k u v) (hk : k + 5 ≤ 2560) (v1 : Int32) (v2 : Int32) (v3 : Int32) : wpX_get (fun r => wpY_get (fun r' => r' = r ∧ i_Rel (k + 5) u v) v v1 v2 v3) u v1 v2 v3 := by
  obtain ⟨xP, xD, xC, xrk, xrw, xcl, xfm, xnm, xk, xa, xcp, xfi, xse, xsp, xin, xva⟩ := u
  obtain ⟨yP, yA, yD, yrk, yrw, ywi, yfm, yce, ykd, ynu, ysz, yva, yfi, yse, yat, ysp⟩ := v
  have I0 := I
  obtain ⟨n, c, d, ⟨rfl, rfl, rfl, rfl, rfl, rfl⟩, G, F⟩ := I
  unfold wpX_get wpY_get
  dsimp only
  by_cases hr : sf_rg v1
  · obtain ⟨r, hr, rfl⟩ := hr
    obtain ⟨q, h, w, f, a1, a2, a3, a4, p1, p2, p3, p4, S, O, O2⟩ := sf_reg G hr
    obtain ⟨s1, s2, s3, s4, s5⟩ := S
    by_cases hp : sf_pl h w v2 v3
    · obtain ⟨a, b, ha, hb, rfl, rfl⟩ := hp
      have ix := sf_xi r a b
      have iy := sf_yi r a b
      refine sx_reg_t hr (br_f (by decide) (sx_place_t hr a2 a3 s2 s4 ha hb (br_f (by decide) ⟨by rw [ix]; exact vp_in_nI (by omega) (by decide), ?_⟩)))
      refine sy_reg_t hr (br_f (by decide) (sy_place_t hr p2 p3 s2 s4 ha hb (br_f (by decide) ⟨by rw [iy]; exact vp_in_nI (by omega) (by decide), ?_, I0⟩)))
      rw [ix, iy, nI_clamp (by omega)]
      exact (G.2.1 _ (by omega)).symm
    · exact sx_reg_t hr (br_f (by decide) (sx_place_f hr a2 a3 s2 s4 hp (br_t rfl (sy_reg_t hr (br_f (by decide) (sy_place_f hr p2 p3 s2 s4 hp (br_t rfl ⟨rfl, I0⟩)))))))
  · exact sx_reg_f hr (br_t rfl (sy_reg_f hr (br_t rfl ⟨rfl, I0⟩)))
theorem i_vc_put {k : Nat} {u : SX} {v : SY} (I : i_Rel k u v) (hk : k + 5 ≤ 2560) (v1 : Int32) (v2 : Int32) (v3 : Int32) (v4 : Int32) : wpX_put (fun r u' => wpY_put (fun r' v' => r' = r ∧ i_Rel (k + 5) u' v') v v1 v2 v3 v4) u v1 v2 v3 v4 := by
  obtain ⟨xP, xD, xC, xrk, xrw, xcl, xfm, xnm, xk, xa, xcp, xfi, xse, xsp, xin, xva⟩ := u
  obtain ⟨yP, yA, yD, yrk, yrw, ywi, yfm, yce, ykd, ynu, ysz, yva, yfi, yse, yat, ysp⟩ := v
  have I0 := I
  obtain ⟨n, c, d, ⟨rfl, rfl, rfl, rfl, rfl, rfl⟩, G, F⟩ := I
  unfold wpX_put wpY_put
  dsimp only
  by_cases hr : sf_rg v1
  · obtain ⟨r, hr, rfl⟩ := hr
    obtain ⟨q, h, w, f, a1, a2, a3, a4, p1, p2, p3, p4, S, O, O2⟩ := sf_reg G hr
    have S' := S
    obtain ⟨s1, s2, s3, s4, s5⟩ := S
    by_cases hp : sf_pl h w v2 v3
    · obtain ⟨a, b, ha, hb, rfl, rfl⟩ := hp
      have ix := sf_xi r a b
      have iy := sf_yi r a b
      have hx : vp_in (nI (36 * r + 6 * a + b)) 216 := vp_in_nI (by omega) (by decide)
      have hy : vp_in (36 * nI r + 6 * nI a + nI b) 468 := by rw [iy]; exact vp_in_nI (by omega) (by decide)
      have ec : (nI (36 * r + 6 * a + b)).toNatClampNeg = 36 * r + 6 * a + b := nI_clamp (by omega)
      refine sx_reg_t hr (br_f (by decide) (sx_place_t hr a2 a3 s2 s4 ha hb (br_f (by decide) (nm_r ix ⟨hx, nm_e ⟨hx, nm_r (e' := upd xnm (36 * r + 6 * a + b) v4) (by rw [ec]) ?_⟩⟩))))
      refine sy_reg_t hr (br_f (by decide) (sy_place_t hr p2 p3 s2 s4 ha hb (br_f (by decide) ⟨hy, nm_e ⟨hy, nm_r (e' := upd yce (36 * r + 6 * a + b) v4) (by rw [iy, ec]) ⟨?_, ?_⟩⟩⟩)))
      · rw [iy, ec]
        exact (G.2.1 _ (by omega)).symm
      · exact sf_mk (sf_Regs_put hr G p1 p2 p3 p4 S' O ha hb v4) (sf_Form_cg F (fun k h1 _ => pk_un (by omega)) (fun _ _ _ => rfl) (fun _ _ _ => rfl))
    · exact sx_reg_t hr (br_f (by decide) (sx_place_f hr a2 a3 s2 s4 hp (br_t rfl (sy_reg_t hr (br_f (by decide) (sy_place_f hr p2 p3 s2 s4 hp (br_t rfl ⟨rfl, I0⟩)))))))
  · exact sx_reg_f hr (br_t rfl (sy_reg_f hr (br_t rfl ⟨rfl, I0⟩)))
theorem i_vc_length {k : Nat} {u : SX} {v : SY} (I : i_Rel k u v) (hk : k + 5 ≤ 2560) (v1 : Int32) (v2 : Int32) : wpX_length (fun r => wpY_length (fun r' => r' = r ∧ i_Rel (k + 5) u v) v v1 v2) u v1 v2 := by
  obtain ⟨xP, xD, xC, xrk, xrw, xcl, xfm, xnm, xk, xa, xcp, xfi, xse, xsp, xin, xva⟩ := u
  obtain ⟨yP, yA, yD, yrk, yrw, ywi, yfm, yce, ykd, ynu, ysz, yva, yfi, yse, yat, ysp⟩ := v
  have I0 := I
  obtain ⟨n, c, d, ⟨rfl, rfl, rfl, rfl, rfl, rfl⟩, G, F⟩ := I
  unfold wpX_length wpY_length
  dsimp only
  by_cases hr : sf_rg v1
  · obtain ⟨r, hr, rfl⟩ := hr
    obtain ⟨q, h, w, f, a1, a2, a3, a4, p1, p2, p3, p4, S, O, O2⟩ := sf_reg G hr
    have hx : vp_in (nI r) 6 := vp_in_nI hr (by decide)
    have hy : vp_in (nI r) 13 := vp_in_nI (by omega) (by decide)
    have ec : (nI r).toNatClampNeg = r := nI_clamp (by omega)
    refine sx_reg_t hr (br_f (by decide) (br_c (fun h1 => ?_) (fun h1 => br_c (fun h2 => br_c (fun h3 => ⟨hx, ?_⟩) (fun h3 => ⟨hx, ?_⟩)) (fun h2 => ?_))))
    · exact sy_reg_t hr (br_f (by decide) (br_t h1 ⟨rfl, I0⟩))
    · exact sy_reg_t hr (br_f (by decide) (br_f h1 (br_t h2 (br_t h3 ⟨hy, by rw [ec, a2, p2], I0⟩))))
    · exact sy_reg_t hr (br_f (by decide) (br_f h1 (br_t h2 (br_f h3 ⟨hy, by rw [ec, a3, p3], I0⟩))))
    · exact sy_reg_t hr (br_f (by decide) (br_f h1 (br_f h2 ⟨rfl, I0⟩)))
  · exact sx_reg_f hr (br_t rfl (sy_reg_f hr (br_t rfl ⟨rfl, I0⟩)))
theorem i_vc_scrap {k : Nat} {u : SX} {v : SY} (I : i_Rel k u v) (hk : k + 5 ≤ 2560) : wpX_scrap (fun u' => wpY_scrap (fun v' => i_Rel (k + 5) u' v') v) u := by
  obtain ⟨xP, xD, xC, xrk, xrw, xcl, xfm, xnm, xk, xa, xcp, xfi, xse, xsp, xin, xva⟩ := u
  obtain ⟨yP, yA, yD, yrk, yrw, ywi, yfm, yce, ykd, ynu, ysz, yva, yfi, yse, yat, ysp⟩ := v
  obtain ⟨n, c, d, ⟨rfl, rfl, rfl, rfl, rfl, rfl⟩, G, F⟩ := I
  unfold wpX_scrap wpY_scrap wpX_emptyStack
  dsimp only
  exact sf_mk (n := 0) (c := 0) (d := 0) G (sf_Form_0 _ _ _ _ _ _ _ _ _ _ _ _ _ _)
end
section
def sf_bi (b : Bool) : Int32 := if b then 1 else 0
def sf_lx (b : Bool) (l k : Nat) : Nat := if b then 6 * k + l else 6 * l + k
theorem sf_lx_lt (b : Bool) {l k : Nat} (hl : l < 6) (hk : k < 6) : sf_lx b l k < 36 := by
  cases b
  · show 6 * l + k < 36; omega
  · show 6 * k + l < 36; omega
theorem sx_cf {post : Int32 → Prop} {xP xD xC : Int32} {xrk xrw xcl xfm xnm xk xa xcp xfi xse xsp xin xva : Nat → Int32} {r : Nat} (hr : r < 6) (h : post (bx_sum (fun i => sf_nz (xnm (36 * r + i))) 36)) : wpX_countFilled post (xP, xD, xC, xrk, xrw, xcl, xfm, xnm, xk, xa, xcp, xfi, xse, xsp, xin, xva) (nI r) := by
  unfold wpX_countFilled
  dsimp only
  refine pk_loop (fun n i (s : Int32) => wX_countFilled_4 post (nI r) xP xD xC xrk xrw xcl xfm xnm xk xa xcp xfi xse xsp xin xva n s (nI i)) (fun i s => s = bx_sum (fun i => sf_nz (xnm (36 * r + i))) i) 36 0 0 (by omega) rfl (fun n s hs => br_t (nI_le (a := 36) (b := 36) (by omega) (by decide)) (by rw [hs]; exact h)) (fun n i s hi hs k => ?_)
  have e : nI r * 36 + nI i = nI (36 * r + i) := sf_xp r i
  have ec : (nI (36 * r + i)).toNatClampNeg = 36 * r + i := nI_clamp (by omega)
  refine br_f (nI_ge (b := 36) hi (by decide)) ⟨by rw [e]; exact vp_in_nI (by omega) (by decide), br_c (fun z => nm_r (nI_1 i) (k s ?_)) (fun z => nm_e (nm_r (nI_1 i) (k (s + 1) ?_)))⟩
  · rw [e, ec] at z
    rw [sm_s, hs, sf_nz0 z, Int32.add_zero]
  · rw [e, ec] at z
    rw [sm_s, hs, sf_nz1 z]
theorem sx_cl34 {post : Int32 → Prop} {J : Int32 → Int32 → Prop} {xP xD xC : Int32} {xrk xrw xcl xfm xnm xk xa xcp xfi xse xsp xin xva : Nat → Int32} {r q i : Nat} {x2 x3 s : Int32} (hq : 36 * r + q < 216) (h : J (s + sf_nz (xnm (36 * r + q))) (nI (i + 1))) : wX_countFilledInLine_34 post J (nI r) x2 x3 s (nI i) (nI q) xP xD xC xrk xrw xcl xfm xnm xk xa xcp xfi xse xsp xin xva := by
  have e : nI r * 36 + nI q = nI (36 * r + q) := sf_xp r q
  have ec : (nI (36 * r + q)).toNatClampNeg = 36 * r + q := nI_clamp (by omega)
  refine ⟨by rw [e]; exact vp_in_nI hq (by decide), br_c (fun z => nm_r (nI_1 i) ?_) (fun z => nm_e (nm_r (nI_1 i) ?_))⟩
  · rw [e, ec] at z
    rw [sf_nz0 z, Int32.add_zero] at h
    exact h
  · rw [e, ec] at z
    rw [sf_nz1 z] at h
    exact h
theorem sf_6a (l k : Nat) : nI l * 6 + nI k = nI (6 * l + k) := by
  show nI l * nI 6 + nI k = _
  rw [pk_mul, nI_add]
  exact congrArg nI (by omega)
theorem sx_line {post : Int32 → Prop} {xP xD xC : Int32} {xrk xrw xcl xfm xnm xk xa xcp xfi xse xsp xin xva : Nat → Int32} (b : Bool) {r l : Nat} (hr : r < 6) (hl : l < 6) (h : post (bx_sum (fun k => sf_nz (xnm (36 * r + sf_lx b l k))) 6)) : wpX_countFilledInLine post (xP, xD, xC, xrk, xrw, xcl, xfm, xnm, xk, xa, xcp, xfi, xse, xsp, xin, xva) (nI r) (nI l) (sf_bi b) := by
  unfold wpX_countFilledInLine
  dsimp only
  refine pk_loop (fun n i (s : Int32) => wX_countFilledInLine_6 post (nI r) (nI l) (sf_bi b) xP xD xC xrk xrw xcl xfm xnm xk xa xcp xfi xse xsp xin xva n s (nI i)) (fun i s => s = bx_sum (fun k => sf_nz (xnm (36 * r + sf_lx b l k))) i) 6 0 0 (by omega) rfl (fun n s hs => br_t (nI_le (a := 6) (b := 6) (by omega) (by decide)) (by rw [hs]; exact h)) (fun n i s hi hs k => ?_)
  have hk := k (s + sf_nz (xnm (36 * r + sf_lx b l i))) (by rw [sm_s, hs])
  have hq := sf_lx_lt b hl hi
  refine br_f (nI_ge (b := 6) hi (by decide)) ?_
  cases b
  · refine br_t rfl ?_
    rw [sf_6a]
    exact sx_cl34 (q := 6 * l + i) (by omega) hk
  · refine br_f (by decide) ?_
    rw [sf_6a]
    exact sx_cl34 (q := 6 * i + l) (by omega) hk
theorem sy_cl56 {post : Int32 → Prop} {J : Int32 → Int32 → Prop} {yP yA yD : Int32} {yrk yrw ywi yfm yce ykd ynu ysz yva yfi yse yat ysp : Nat → Int32} {r a b i : Nat} {x2 x3 x5 s : Int32} (hr : r < 6) (ha : a < 6) (hb : b < 6) (h : J (s + sf_nz (yce (36 * r + (6 * a + b)))) (nI (i + 1))) : wY_countLine_56 post J (nI r) x2 x3 s x5 (nI i) (nI a) (nI b) yP yA yD yrk yrw ywi yfm yce ykd ynu ysz yva yfi yse yat ysp := by
  have e : 36 * nI r + 6 * nI a + nI b = nI (36 * r + 6 * a + b) := sf_yi r a b
  have ec : (nI (36 * r + 6 * a + b)).toNatClampNeg = 36 * r + (6 * a + b) := by rw [nI_clamp (by omega)]; omega
  refine ⟨by rw [e]; exact vp_in_nI (by omega) (by decide), br_c (fun z => nm_r (nI_1 i) ?_) (fun z => nm_e (nm_r (nI_1 i) ?_))⟩
  · rw [e, ec] at z
    rw [sf_nz0 z, Int32.add_zero] at h
    exact h
  · rw [e, ec] at z
    rw [sf_nz1 z] at h
    exact h
theorem sy_line {post : Int32 → Prop} {yP yA yD : Int32} {yrk yrw ywi yfm yce ykd ynu ysz yva yfi yse yat ysp : Nat → Int32} (b : Bool) {r l h w : Nat} (hr : r < 6) (hl : l < 6) (e1 : yrw r = nI h) (e2 : ywi r = nI w) (hh : h ≤ 6) (hw : w ≤ 6) (p : post (bx_sum (fun k => sf_nz (yce (36 * r + sf_lx b l k))) (if b then h else w))) : wpY_countLine post (yP, yA, yD, yrk, yrw, ywi, yfm, yce, ykd, ynu, ysz, yva, yfi, yse, yat, ysp) (nI r) (nI l) (sf_bi (!b)) := by
  unfold wpY_countLine
  dsimp only
  have hv : vp_in (nI r) 13 := vp_in_nI (by omega) (by decide)
  have ec : (nI r).toNatClampNeg = r := nI_clamp (by omega)
  have main : ∀ m : Nat, m ≤ 6 → post (bx_sum (fun k => sf_nz (yce (36 * r + sf_lx b l k))) m) → ∃ n, wY_countLine_27 post (nI r) (nI l) (sf_bi (!b)) (nI m) yP yA yD yrk yrw ywi yfm yce ykd ynu ysz yva yfi yse yat ysp n 0 0 := by
    intro m hm p
    refine pk_loop (fun n i (s : Int32) => wY_countLine_27 post (nI r) (nI l) (sf_bi (!b)) (nI m) yP yA yD yrk yrw ywi yfm yce ykd ynu ysz yva yfi yse yat ysp n s (nI i)) (fun i s => s = bx_sum (fun k => sf_nz (yce (36 * r + sf_lx b l k))) i) m 0 0 (by omega) rfl (fun n s hs => br_t (nI_le (a := m) (b := m) (by omega) (by omega)) (by rw [hs]; exact p)) (fun n i s hi hs k => ?_)
    have hk := k (s + sf_nz (yce (36 * r + sf_lx b l i))) (by rw [sm_s, hs])
    refine br_f (nI_ge hi (by omega)) ?_
    cases b
    · exact br_f (by decide) (br_f (by decide) (sy_cl56 (a := l) (b := i) hr hl (by omega) hk))
    · exact br_t rfl (br_t rfl (sy_cl56 (a := i) (b := l) hr (by omega) hl hk))
  cases b
  · exact br_f (by decide) ⟨hv, nm_r (e' := nI w) (by rw [ec, e2]) (main w hw p)⟩
  · exact br_t rfl ⟨hv, nm_r (e' := nI h) (by rw [ec, e1]) (main h hh p)⟩
theorem sy_cf {post : Int32 → Prop} {yP yA yD : Int32} {yrk yrw ywi yfm yce ykd ynu ysz yva yfi yse yat ysp : Nat → Int32} {r h w : Nat} (hr : r < 6) (e1 : yrw r = nI h) (e2 : ywi r = nI w) (hh : h ≤ 6) (hw : w ≤ 6) (O : sf_Out h w (fun i => yce (36 * r + i))) (p : post (bx_sum (fun i => sf_nz (yce (36 * r + i))) 36)) : wpY_countFilled post (yP, yA, yD, yrk, yrw, ywi, yfm, yce, ykd, ynu, ysz, yva, yfi, yse, yat, ysp) (nI r) := by
  unfold wpY_countFilled
  dsimp only
  have hv : vp_in (nI r) 13 := vp_in_nI (by omega) (by decide)
  have ec : (nI r).toNatClampNeg = r := nI_clamp (by omega)
  rw [sm_block hh hw (fun i j hi hj hz => sf_nz0 (O i j hi hj hz))] at p
  refine pk_loop (fun n i (s : Int32) => wY_countFilled_4 post (nI r) yP yA yD yrk yrw ywi yfm yce ykd ynu ysz yva yfi yse yat ysp n s (nI i)) (fun i s => s = bx_sum (fun i => bx_sum (fun j => sf_nz (yce (36 * r + (6 * i + j)))) w) i) h 0 0 (by omega) rfl (fun n s hs => ⟨hv, br_t (by rw [ec, e1]; exact nI_le (by omega) (by omega)) (by rw [hs]; exact p)⟩) (fun n i s hi hs k => ⟨hv, br_f (by rw [ec, e1]; exact nI_ge hi (by omega)) ?_⟩)
  exact sy_line false hr (by omega) e1 e2 hh hw (nm_e (nm_r (nI_1 i) (k _ (by rw [sm_s, hs]; rfl))))
end
section
theorem sf_f1 : ∀ f, f < 8 → ((nI f &&& 1 = 0) ↔ f % 2 = 0) := by decide +kernel
theorem sf_f2 : ∀ f, f < 8 → ((nI f &&& 2 = 0) ↔ f / 2 % 2 = 0) := by decide +kernel
theorem sf_f3 : ∀ f, f < 8 → ((nI f - nI f / 2 * 2 = 0) ↔ f % 2 = 0) := by decide +kernel
theorem sf_f4 : ∀ f, f < 8 → ((nI f / 2 - nI f / 2 / 2 * 2 = 0) ↔ f / 2 % 2 = 0) := by decide +kernel
theorem sf_tm_o {f : Nat} {L own : Int32} (h : f % 2 = 1) : sf_tm f L own = own := if_pos h
theorem sf_tm_y {f : Nat} {L own : Int32} (h : ¬ f % 2 = 1) (h2 : 0 < own ∨ f / 2 % 2 = 0) : sf_tm f L own = L := by
  unfold sf_tm
  rw [if_neg h, if_pos h2]
theorem sf_tm_n {f : Nat} {L own : Int32} (h : ¬ f % 2 = 1) (h2 : ¬ (0 < own ∨ f / 2 % 2 = 0)) : sf_tm f L own = 0 := by
  unfold sf_tm
  rw [if_neg h, if_neg h2]
def sf_own (g : Nat → Int32) (b : Bool) (l : Nat) : Int32 := bx_sum (fun k => sf_nz (g (sf_lx b l k))) 6
theorem sx_room144 {post : Int32 → Prop} {xP xD xC : Int32} {xrk xrw xcl xfm xnm xk xa xcp xfi xse xsp xin xva : Nat → Int32} (b : Bool) {r f L : Nat} {x3 x4 ll : Int32} (hr : r < 6) (hL : L ≤ 6) (h3 : x3 = 0 ↔ f / 2 % 2 = 0) (h4 : x4 = 0 ↔ f % 2 = 0) (h : post (bx_sum (fun l => sf_tm f ll (sf_own (fun i => xnm (36 * r + i)) b l)) L)) : ∃ n, wX_countRoom_144 post (nI r) (sf_bi b) x3 x4 (nI L) ll xP xD xC xrk xrw xcl xfm xnm xk xa xcp xfi xse xsp xin xva n 0 0 := by
  refine pk_loop (fun n i (s : Int32) => wX_countRoom_144 post (nI r) (sf_bi b) x3 x4 (nI L) ll xP xD xC xrk xrw xcl xfm xnm xk xa xcp xfi xse xsp xin xva n s (nI i)) (fun i s => s = bx_sum (fun l => sf_tm f ll (sf_own (fun i => xnm (36 * r + i)) b l)) i) L 0 0 (by omega) rfl (fun n s hs => br_t (nI_le (a := L) (b := L) (by omega) (by omega)) (by rw [hs]; exact h)) (fun n i s hi hs k => br_f (nI_ge hi (by omega)) ?_)
  apply sx_line b hr (by omega)
  have hk := k (s + sf_tm f ll (sf_own (fun i => xnm (36 * r + i)) b i)) (by rw [sm_s, hs])
  show (x4 = 0 → _) ∧ _
  by_cases z : f % 2 = 1
  · rw [sf_tm_o z] at hk
    exact br_f (fun y => by have := h4.mp y; omega) (nm_e (nm_r (nI_1 i) hk))
  · refine br_t (h4.mpr (by omega)) (br_c (fun z1 => ?_) (fun z1 => br_c (fun z2 => ?_) (fun z2 => ?_)))
    · rw [sf_tm_y (own := sf_own (fun i => xnm (36 * r + i)) b i) z (Or.inl z1)] at hk
      exact nm_e (nm_r (nI_1 i) hk)
    · rw [sf_tm_y z (Or.inr (h3.mp z2))] at hk
      exact nm_e (nm_r (nI_1 i) hk)
    · rw [sf_tm_n (own := sf_own (fun i => xnm (36 * r + i)) b i) z (fun y => y.elim z1 (fun y => z2 (h3.mpr y))), Int32.add_zero] at hk
      exact nm_r (nI_1 i) hk
theorem sy_room131 {post : Int32 → Prop} {J : Int32 → Int32 → Prop} {yP yA yD : Int32} {yrk yrw ywi yfm yce ykd ynu ysz yva yfi yse yat ysp : Nat → Int32} {f i : Nat} {x1 x3 x4 x5 s own : Int32} (hf : f < 8) (h : J (s + (if f % 2 = 0 then x5 else own)) (nI (i + 1))) : wY_countRoom_131 post J x1 (nI f) x3 x4 x5 s (nI i) own 1 yP yA yD yrk yrw ywi yfm yce ykd ynu ysz yva yfi yse yat ysp := by
  by_cases z : f % 2 = 0
  · rw [if_pos z] at h
    exact br_f (by decide) ⟨by decide, br_t ((sf_f3 f hf).mpr z) (nm_e (nm_r (nI_1 i) h))⟩
  · rw [if_neg z] at h
    exact br_f (by decide) ⟨by decide, br_f (fun y => z ((sf_f3 f hf).mp y)) (nm_e (nm_r (nI_1 i) h))⟩
theorem sy_room96 {post : Int32 → Prop} {yP yA yD : Int32} {yrk yrw ywi yfm yce ykd ynu ysz yva yfi yse yat ysp : Nat → Int32} (b : Bool) {r f L h w : Nat} {ll : Int32} (hr : r < 6) (hf : f < 8) (hL : L ≤ (if b then w else h)) (e1 : yrw r = nI h) (e2 : ywi r = nI w) (hh : h ≤ 6) (hw : w ≤ 6) (O : sf_Out h w (fun i => yce (36 * r + i))) (p : post (bx_sum (fun l => sf_tm f ll (sf_own (fun i => yce (36 * r + i)) b l)) L)) : ∃ n, wY_countRoom_96 post (nI r) (nI f) (sf_bi (!b)) (nI L) ll yP yA yD yrk yrw ywi yfm yce ykd ynu ysz yva yfi yse yat ysp n 0 0 := by
  have hL6 : L ≤ 6 := by cases b <;> simp at hL <;> omega
  refine pk_loop (fun n i (s : Int32) => wY_countRoom_96 post (nI r) (nI f) (sf_bi (!b)) (nI L) ll yP yA yD yrk yrw ywi yfm yce ykd ynu ysz yva yfi yse yat ysp n s (nI i)) (fun i s => s = bx_sum (fun l => sf_tm f ll (sf_own (fun i => yce (36 * r + i)) b l)) i) L 0 0 (by omega) rfl (fun n s hs => br_t (nI_le (a := L) (b := L) (by omega) (by omega)) (by rw [hs]; exact p)) (fun n i s hi hs k => br_f (nI_ge hi (by omega)) ?_)
  apply sy_line b hr (by omega) e1 e2 hh hw
  have eo : bx_sum (fun k => sf_nz (yce (36 * r + sf_lx b i k))) (if b then h else w) = sf_own (fun i => yce (36 * r + i)) b i := by
    unfold sf_own
    cases b
    · exact (sm_cut hw (fun j h1 h2 => sf_nz0 (O i j (by omega) h2 (Or.inr h1)))).symm
    · exact (sm_cut hh (fun j h1 h2 => sf_nz0 (O j i h2 (by omega) (Or.inl h1)))).symm
  rw [eo]
  obtain ⟨m, hm, em⟩ : ∃ m : Nat, m ≤ 6 ∧ sf_own (fun i => yce (36 * r + i)) b i = nI m := sm_nat 6 (fun j _ => sf_nz01 _)
  have hk := k (s + sf_tm f ll (sf_own (fun i => yce (36 * r + i)) b i)) (by rw [sm_s, hs])
  rw [em] at hk ⊢
  by_cases z : f % 2 = 1
  · rw [sf_tm_o z] at hk
    have hk' : wY_countRoom_96 post (nI r) (nI f) (sf_bi (!b)) (nI L) ll yP yA yD yrk yrw ywi yfm yce ykd ynu ysz yva yfi yse yat ysp n (s + (if f % 2 = 0 then ll else nI m)) (nI (i + 1)) := by
      rw [if_neg (by omega)]; exact hk
    refine br_c (fun z1 => sy_room131 hf hk') (fun z1 => ⟨by decide, by decide, br_c (fun z2 => sy_room131 hf hk') (fun z2 => br_t rfl (nm_r (nI_1 i) ?_))⟩)
    have m0 : m = 0 := by
      apply Classical.byContradiction
      intro y
      exact z1 (nI_lt (a := 0) (by omega) (by omega))
    subst m0
    have e0 : s + nI 0 = s := Int32.add_zero s
    rw [e0] at hk
    exact hk
  · have hk' : (0 < nI m ∨ f / 2 % 2 = 0) → wY_countRoom_96 post (nI r) (nI f) (sf_bi (!b)) (nI L) ll yP yA yD yrk yrw ywi yfm yce ykd ynu ysz yva yfi yse yat ysp n (s + (if f % 2 = 0 then ll else nI m)) (nI (i + 1)) := fun y => by
      rw [sf_tm_y z y] at hk
      rw [if_pos (by omega)]; exact hk
    refine br_c (fun z1 => sy_room131 hf (hk' (Or.inl z1))) (fun z1 => ⟨by decide, by decide, br_c (fun z2 => sy_room131 hf (hk' (Or.inr ((sf_f4 f hf).mp z2)))) (fun z2 => br_t rfl (nm_r (nI_1 i) ?_))⟩)
    rw [sf_tm_n z (fun y => y.elim z1 (fun y => z2 ((sf_f4 f hf).mpr y))), Int32.add_zero] at hk
    exact hk
def sf_roomv (k h w f : Nat) (g : Nat → Int32) : Int32 :=
  if k = 0 then 1 else if k = 1 then (if f = 0 then nI h else bx_sum (fun i => sf_nz (g i)) 36) else
    if 4 ≤ f then bx_sum (fun l => sf_tm f (nI h) (sf_own g true l)) w else bx_sum (fun l => sf_tm f (nI w) (sf_own g false l)) h
theorem sx_room {post : Int32 → Prop} {xP xD xC : Int32} {xrk xrw xcl xfm xnm xk xa xcp xfi xse xsp xin xva : Nat → Int32} {r k h w f : Nat} (hr : r < 6) (e0 : xrk r = nI k) (e1 : xrw r = nI h) (e2 : xcl r = nI w) (e3 : xfm r = nI f) (S : sf_Sh k h w f) (p : post (sf_roomv k h w f (fun i => xnm (36 * r + i)))) : wpX_countRoom post (xP, xD, xC, xrk, xrw, xcl, xfm, xnm, xk, xa, xcp, xfi, xse, xsp, xin, xva) (nI r) := by
  have hv : vp_in (nI r) 6 := vp_in_nI hr (by decide)
  have ec : (nI r).toNatClampNeg = r := nI_clamp (by omega)
  obtain ⟨s1, s2, s3, s4, s5⟩ := S
  unfold wpX_countRoom
  dsimp only
  rw [ec, e0, e1, e3]
  unfold sf_roomv at p
  by_cases k0 : k = 0
  · rw [if_pos k0] at p
    exact ⟨hv, br_t (by rw [k0]; rfl) p⟩
  rw [if_neg k0] at p
  refine ⟨hv, br_f (nI_ne0 (by omega) (by omega)) ⟨hv, ?_⟩⟩
  by_cases k1 : k = 1
  · rw [if_pos k1] at p
    refine br_t (by rw [k1]; rfl) ⟨hv, ?_⟩
    by_cases f0 : f = 0
    · rw [if_pos f0] at p
      exact br_t (by rw [f0]; rfl) ⟨hv, p⟩
    · rw [if_neg f0] at p
      exact br_f (nI_ne0 (by omega) (by omega)) (sx_cf hr p)
  rw [if_neg k1] at p
  refine br_f (fun y => k1 ((nI_eq (b := 1) (by omega) (by decide)).mp y)) ⟨hv, ?_⟩
  have hf : f < 8 := by omega
  have R77 : ∀ (b : Bool) (z0 : Int32), (∀ x4 : Int32, (x4 = 0 ↔ f % 2 = 0) → wX_countRoom_94 post (nI r) (sf_bi b) z0 x4 xP xD xC xrk xrw xcl xfm xnm xk xa xcp xfi xse xsp xin xva) → wX_countRoom_77 post (nI r) (sf_bi b) z0 xP xD xC xrk xrw xcl xfm xnm xk xa xcp xfi xse xsp xin xva := by
    intro b z0 H
    unfold wX_countRoom_77
    rw [ec, e3]
    refine ⟨hv, br_c (fun z => H 0 ⟨fun _ => (sf_f1 f hf).mp z, fun _ => rfl⟩) (fun z => H 1 ⟨fun y => absurd y (by decide), fun y => absurd ((sf_f1 f hf).mpr y) z⟩)⟩
  have R60 : ∀ (b : Bool), (∀ x3 x4 : Int32, (x3 = 0 ↔ f / 2 % 2 = 0) → (x4 = 0 ↔ f % 2 = 0) → wX_countRoom_94 post (nI r) (sf_bi b) x3 x4 xP xD xC xrk xrw xcl xfm xnm xk xa xcp xfi xse xsp xin xva) → wX_countRoom_60 post (nI r) (sf_bi b) xP xD xC xrk xrw xcl xfm xnm xk xa xcp xfi xse xsp xin xva := by
    intro b H
    unfold wX_countRoom_60
    rw [ec, e3]
    refine ⟨hv, br_c (fun z => R77 b 0 (fun x4 => H 0 x4 ⟨fun _ => (sf_f2 f hf).mp z, fun _ => rfl⟩)) (fun z => R77 b 1 (fun x4 => H 1 x4 ⟨fun y => absurd y (by decide), fun y => absurd ((sf_f2 f hf).mpr y) z⟩))⟩
  by_cases f4 : 4 ≤ f
  · rw [if_pos f4] at p
    refine br_f (nI_nlt (b := 4) f4 (by omega)) (R60 true (fun x3 x4 h3 h4 => br_f (by decide) ⟨hv, br_f (by decide) ⟨hv, nm_r (e' := nI h) (by rw [ec, e1]) ?_⟩⟩))
    rw [ec, e2]
    exact sx_room144 true hr s4 h3 h4 p
  · rw [if_neg f4] at p
    refine br_t (nI_lt (b := 4) (by omega) (by decide)) (R60 false (fun x3 x4 h3 h4 => br_t rfl ⟨hv, br_t rfl ⟨hv, nm_r (e' := nI w) (by rw [ec, e2]) ?_⟩⟩))
    rw [ec, e1]
    exact sx_room144 false hr s2 h3 h4 p
theorem sy_room {post : Int32 → Prop} {yP yA yD : Int32} {yrk yrw ywi yfm yce ykd ynu ysz yva yfi yse yat ysp : Nat → Int32} {r k h w f : Nat} (hr : r < 6) (e0 : yrk r = nI k) (e1 : yrw r = nI h) (e2 : ywi r = nI w) (e3 : yfm r = nI f) (S : sf_Sh k h w f) (O : sf_Out h w (fun i => yce (36 * r + i))) (p : post (sf_roomv k h w f (fun i => yce (36 * r + i)))) : wpY_countRoom post (yP, yA, yD, yrk, yrw, ywi, yfm, yce, ykd, ynu, ysz, yva, yfi, yse, yat, ysp) (nI r) := by
  have hv : vp_in (nI r) 13 := vp_in_nI (by omega) (by decide)
  have ec : (nI r).toNatClampNeg = r := nI_clamp (by omega)
  obtain ⟨s1, s2, s3, s4, s5⟩ := S
  unfold wpY_countRoom
  dsimp only
  rw [ec, e0, e1, e3]
  unfold sf_roomv at p
  refine ⟨hv, nm_e ⟨hv, ?_⟩⟩
  have hf : f < 8 := by omega
  by_cases k2 : k = 2
  · rw [if_neg (by omega), if_neg (by omega)] at p
    refine br_t (nI_le (a := 2) (by omega) (by omega)) ?_
    by_cases f4 : 4 ≤ f
    · rw [if_pos f4] at p
      refine br_t (nI_le (a := 4) f4 (by omega)) (br_t rfl ⟨hv, br_t rfl ⟨hv, nm_r (e' := nI h) (by rw [ec, e1]) ?_⟩⟩)
      rw [ec, e2]
      exact sy_room96 true hr hf (Nat.le_refl w) e1 e2 s2 s4 O p
    · rw [if_neg f4] at p
      refine br_f (nI_ge (b := 4) (by omega) (by decide)) (br_f (by decide) ⟨hv, br_f (by decide) ⟨hv, nm_r (e' := nI w) (by rw [ec, e2]) ?_⟩⟩)
      rw [ec, e1]
      exact sy_room96 false hr hf (Nat.le_refl h) e1 e2 s2 s4 O p
  · refine br_f (nI_ge (b := 2) (by omega) (by decide)) ?_
    by_cases k0 : k = 0
    · rw [if_pos k0] at p
      have hf0 : f = 0 := by omega
      have hh1 : h = 1 := by omega
      subst hf0 hh1
      exact br_f (by decide) ⟨hv, p⟩
    · rw [if_neg k0, if_pos (by omega)] at p
      by_cases f0 : f = 0
      · rw [if_pos f0] at p
        exact br_f (by rw [f0]; decide) ⟨hv, p⟩
      · rw [if_neg f0] at p
        have hf1 : f = 1 := by omega
        exact br_t (by rw [hf1]; rfl) (sy_cf hr e1 e2 s2 s4 O p)
theorem sf_roomv_cg {k h w f : Nat} {g g' : Nat → Int32} (hh : h ≤ 6) (hw : w ≤ 6) (e : ∀ i, i < 36 → g i = g' i) : sf_roomv k h w f g = sf_roomv k h w f g' := by
  unfold sf_roomv
  have e1 : bx_sum (fun i => sf_nz (g i)) 36 = bx_sum (fun i => sf_nz (g' i)) 36 := sm_cg 36 (fun i hi => by rw [e i hi])
  have e2 : ∀ b l, l < 6 → sf_own g b l = sf_own g' b l := fun b l hl => sm_cg 6 (fun i hi => by rw [e _ (sf_lx_lt b hl hi)])
  have e3 : bx_sum (fun l => sf_tm f (nI h) (sf_own g true l)) w = bx_sum (fun l => sf_tm f (nI h) (sf_own g' true l)) w := sm_cg w (fun l hl => by rw [e2 true l (by omega)])
  have e4 : bx_sum (fun l => sf_tm f (nI w) (sf_own g false l)) h = bx_sum (fun l => sf_tm f (nI w) (sf_own g' false l)) h := sm_cg h (fun l hl => by rw [e2 false l (by omega)])
  rw [e1, e3, e4]
end
section
theorem sf_Sh_f {q h w f j : Nat} (S : sf_Sh q h w f) (hj : j ≤ sf_fm q) : sf_Sh q h w j := by
  obtain ⟨s1, s2, s3, s4, s5⟩ := S
  unfold sf_fm at hj
  refine ⟨s1, s2, s3, s4, ?_⟩
  rcases s5 with ⟨rfl, z⟩ | ⟨rfl, z⟩ | ⟨rfl, z⟩
  · rw [if_pos rfl] at hj; omega
  · rw [if_neg (by omega), if_pos rfl] at hj; omega
  · rw [if_neg (by omega), if_neg (by omega)] at hj; omega
theorem sf_Sh_k {q h w f : Nat} (S : sf_Sh q h w f) : q ≤ 2 := by
  obtain ⟨s1, s2, s3, s4, s5⟩ := S
  omega
theorem i_vc_format {k : Nat} {u : SX} {v : SY} (I : i_Rel k u v) (hk : k + 5 ≤ 2560) (v1 : Int32) (v2 : Int32) : wpX_format (fun r u' => wpY_format (fun r' v' => r' = r ∧ i_Rel (k + 5) u' v') v v1 v2) u v1 v2 := by
  obtain ⟨xP, xD, xC, xrk, xrw, xcl, xfm, xnm, xk, xa, xcp, xfi, xse, xsp, xin, xva⟩ := u
  obtain ⟨yP, yA, yD, yrk, yrw, ywi, yfm, yce, ykd, ynu, ysz, yva, yfi, yse, yat, ysp⟩ := v
  have I0 := I
  obtain ⟨n, c, d, ⟨rfl, rfl, rfl, rfl, rfl, rfl⟩, G, F⟩ := I
  unfold wpX_format wpY_format
  dsimp only
  by_cases hr : sf_rg v1
  · obtain ⟨r, hr, rfl⟩ := hr
    obtain ⟨q, h, w, f, a1, a2, a3, a4, p1, p2, p3, p4, S, O, O2⟩ := sf_reg G hr
    have hx : vp_in (nI r) 6 := vp_in_nI hr (by decide)
    have hy : vp_in (nI r) 13 := vp_in_nI (by omega) (by decide)
    have ec : (nI r).toNatClampNeg = r := nI_clamp (by omega)
    rw [ec, a1, p1]
    by_cases hf : sf_fg q v2
    · obtain ⟨j, hj, rfl⟩ := hf
      have S' := sf_Sh_f S hj
      refine sx_reg_t hr (br_f (by decide) ⟨hx, sx_fmt_t (sf_Sh_k S) hj (br_f (by decide) ⟨hx, nm_e (sx_room hr a1 a2 a3 pk_us S' ?_)⟩)⟩)
      refine sy_reg_t hr (br_f (by decide) ⟨hy, sy_fmt_t (sf_Sh_k S) hj (br_f (by decide) ⟨hy, nm_e (sy_room hr p1 p2 p3 pk_us S' O ⟨?_, ?_⟩)⟩)⟩)
      · exact sf_roomv_cg S.2.1 S.2.2.2.1 (fun i hi => (G.2.1 _ (by omega)).symm)
      · exact sf_mk (sf_Regs_fmt hr G p1 p2 p3 S' O) F
    · exact sx_reg_t hr (br_f (by decide) ⟨hx, sx_fmt_f (sf_Sh_k S) hf (br_t rfl (sy_reg_t hr (br_f (by decide) ⟨hy, sy_fmt_f (sf_Sh_k S) hf (br_t rfl ⟨rfl, I0⟩)⟩)))⟩)
  · exact sx_reg_f hr (br_t rfl (sy_reg_f hr (br_t rfl ⟨rfl, I0⟩)))
theorem i_vc_room {k : Nat} {u : SX} {v : SY} (I : i_Rel k u v) (hk : k + 5 ≤ 2560) (v1 : Int32) : wpX_room (fun r => wpY_room (fun r' => r' = r ∧ i_Rel (k + 5) u v) v v1) u v1 := by
  obtain ⟨xP, xD, xC, xrk, xrw, xcl, xfm, xnm, xk, xa, xcp, xfi, xse, xsp, xin, xva⟩ := u
  obtain ⟨yP, yA, yD, yrk, yrw, ywi, yfm, yce, ykd, ynu, ysz, yva, yfi, yse, yat, ysp⟩ := v
  have I0 := I
  obtain ⟨n, c, d, ⟨rfl, rfl, rfl, rfl, rfl, rfl⟩, G, F⟩ := I
  unfold wpX_room wpY_room
  dsimp only
  by_cases hr : sf_rg v1
  · obtain ⟨r, hr, rfl⟩ := hr
    obtain ⟨q, h, w, f, a1, a2, a3, a4, p1, p2, p3, p4, S, O, O2⟩ := sf_reg G hr
    refine sx_reg_t hr (br_f (by decide) (sx_room hr a1 a2 a3 a4 S ?_))
    refine sy_reg_t hr (br_f (by decide) (sy_room hr p1 p2 p3 p4 S O ⟨?_, I0⟩))
    exact sf_roomv_cg S.2.1 S.2.2.2.1 (fun i hi => (G.2.1 _ (by omega)).symm)
  · exact sx_reg_f hr (br_t rfl (sy_reg_f hr (br_t rfl ⟨rfl, I0⟩)))
theorem i_vc_filled {k : Nat} {u : SX} {v : SY} (I : i_Rel k u v) (hk : k + 5 ≤ 2560) (v1 : Int32) : wpX_filled (fun r => wpY_filled (fun r' => r' = r ∧ i_Rel (k + 5) u v) v v1) u v1 := by
  obtain ⟨xP, xD, xC, xrk, xrw, xcl, xfm, xnm, xk, xa, xcp, xfi, xse, xsp, xin, xva⟩ := u
  obtain ⟨yP, yA, yD, yrk, yrw, ywi, yfm, yce, ykd, ynu, ysz, yva, yfi, yse, yat, ysp⟩ := v
  have I0 := I
  obtain ⟨n, c, d, ⟨rfl, rfl, rfl, rfl, rfl, rfl⟩, G, F⟩ := I
  unfold wpX_filled wpY_filled
  dsimp only
  by_cases hr : sf_rg v1
  · obtain ⟨r, hr, rfl⟩ := hr
    obtain ⟨q, h, w, f, a1, a2, a3, a4, p1, p2, p3, p4, S, O, O2⟩ := sf_reg G hr
    refine sx_reg_t hr (br_f (by decide) (sx_cf hr ?_))
    refine sy_reg_t hr (br_f (by decide) (sy_cf hr p2 p3 S.2.1 S.2.2.2.1 O ⟨?_, I0⟩))
    exact sm_cg 36 (fun i hi => by rw [G.2.1 _ (by omega)])
  · exact sx_reg_f hr (br_t rfl (sy_reg_f hr (br_t rfl ⟨rfl, I0⟩)))
/-- the set of the filled columns of a line -/
def sf_pt (g : Nat → Int32) : Nat → Nat
  | 0 => 0
  | j + 1 => sf_pt g j + (if g j = 0 then 0 else 2 ^ j)
theorem sf_pt_lt (g : Nat → Int32) : ∀ j, sf_pt g j < 2 ^ j := by
  intro j
  induction j with
  | zero => exact Nat.one_pos
  | succ j ih =>
    show sf_pt g j + (if g j = 0 then 0 else 2 ^ j) < 2 ^ (j + 1)
    rw [Nat.pow_succ]
    split <;> omega
theorem sf_pat : ∀ j, j < 6 → ∀ s, s < 64 → s < 2 ^ j → nI s + ((1 : Int32) <<< (nI j &&& 31)) = nI (s + 2 ^ j) ∧ nI s ||| ((1 : Int32) <<< (nI j &&& 31)) = nI (s + 2 ^ j) := by decide +kernel
theorem sf_pt64 (g : Nat → Int32) {j : Nat} (hj : j < 6) : sf_pt g j < 64 := by
  have h1 := sf_pt_lt g j
  have h2 : ∀ j, j < 6 → 2 ^ j < 64 := by decide
  have := h2 j hj
  omega
theorem sx_pat {post : Int32 → Prop} {xP xD xC : Int32} {xrk xrw xcl xfm xnm xk xa xcp xfi xse xsp xin xva : Nat → Int32} {r i w : Nat} (hr : r < 6) (hi : i < 6) (e2 : xcl r = nI w) (hw : w ≤ 6) (p : post (nI (sf_pt (fun j => xnm (36 * r + (6 * i + j))) w))) : ∃ n, wX_pattern_32 post (nI r) (nI i) xP xD xC xrk xrw xcl xfm xnm xk xa xcp xfi xse xsp xin xva n 0 0 := by
  have hv : vp_in (nI r) 6 := vp_in_nI hr (by decide)
  have ec : (nI r).toNatClampNeg = r := nI_clamp (by omega)
  refine pk_loop (fun n j (s : Int32) => wX_pattern_32 post (nI r) (nI i) xP xD xC xrk xrw xcl xfm xnm xk xa xcp xfi xse xsp xin xva n s (nI j)) (fun j s => s = nI (sf_pt (fun j => xnm (36 * r + (6 * i + j))) j)) w 0 0 (by omega) rfl (fun n s hs => ⟨hv, br_t (by rw [ec, e2]; exact nI_le (by omega) (by omega)) (by rw [hs]; exact p)⟩) (fun n j s hj hs k => ⟨hv, br_f (by rw [ec, e2]; exact nI_ge hj (by omega)) ?_⟩)
  have e : nI r * 36 + nI i * 6 + nI j = nI (36 * r + 6 * i + j) := sf_xi r i j
  have ec2 : (nI (36 * r + 6 * i + j)).toNatClampNeg = 36 * r + (6 * i + j) := by rw [nI_clamp (by omega)]; omega
  rw [e, ec2]
  refine ⟨vp_in_nI (by omega) (by decide), br_c (fun z => nm_r (nI_1 j) (k s ?_)) (fun z => nm_r (e' := nI (sf_pt (fun j => xnm (36 * r + (6 * i + j))) (j + 1))) ?_ (nm_r (nI_1 j) (k _ rfl)))⟩
  · rw [hs]
    show _ = nI (_ + (if xnm (36 * r + (6 * i + j)) = 0 then 0 else 2 ^ j))
    rw [if_pos z, Nat.add_zero]
  · rw [hs, (sf_pat j (by omega) _ (sf_pt64 _ (by omega)) (sf_pt_lt _ j)).1]
    show _ = nI (_ + (if xnm (36 * r + (6 * i + j)) = 0 then 0 else 2 ^ j))
    rw [if_neg z]
theorem sy_pat {post : Int32 → Prop} {yP yA yD : Int32} {yrk yrw ywi yfm yce ykd ynu ysz yva yfi yse yat ysp : Nat → Int32} {r i w : Nat} (hr : r < 6) (hi : i < 6) (e2 : ywi r = nI w) (hw : w ≤ 6) (p : post (nI (sf_pt (fun j => yce (36 * r + (6 * i + j))) w))) : ∃ n, wY_pattern_33 post (nI r) (nI i) yP yA yD yrk yrw ywi yfm yce ykd ynu ysz yva yfi yse yat ysp n 0 0 := by
  have hv : vp_in (nI r) 13 := vp_in_nI (by omega) (by decide)
  have ec : (nI r).toNatClampNeg = r := nI_clamp (by omega)
  refine pk_loop (fun n j (s : Int32) => wY_pattern_33 post (nI r) (nI i) yP yA yD yrk yrw ywi yfm yce ykd ynu ysz yva yfi yse yat ysp n s (nI j)) (fun j s => s = nI (sf_pt (fun j => yce (36 * r + (6 * i + j))) j)) w 0 0 (by omega) rfl (fun n s hs => ⟨hv, br_t (by rw [ec, e2]; exact nI_le (by omega) (by omega)) (by rw [hs]; exact p)⟩) (fun n j s hj hs k => ⟨hv, br_f (by rw [ec, e2]; exact nI_ge hj (by omega)) ?_⟩)
  have e : 36 * nI r + 6 * nI i + nI j = nI (36 * r + 6 * i + j) := sf_yi r i j
  have ec2 : (nI (36 * r + 6 * i + j)).toNatClampNeg = 36 * r + (6 * i + j) := by rw [nI_clamp (by omega)]; omega
  rw [e, ec2]
  refine ⟨vp_in_nI (by omega) (by decide), br_c (fun z => nm_r (nI_1 j) (k s ?_)) (fun z => nm_r (e' := nI (sf_pt (fun j => yce (36 * r + (6 * i + j))) (j + 1))) ?_ (nm_r (nI_1 j) (k _ rfl)))⟩
  · rw [hs]
    show _ = nI (_ + (if yce (36 * r + (6 * i + j)) = 0 then 0 else 2 ^ j))
    rw [if_pos z, Nat.add_zero]
  · rw [hs, (sf_pat j (by omega) _ (sf_pt64 _ (by omega)) (sf_pt_lt _ j)).2]
    show _ = nI (_ + (if yce (36 * r + (6 * i + j)) = 0 then 0 else 2 ^ j))
    rw [if_neg z]
theorem sf_pt_cg {g g' : Nat → Int32} : ∀ w, (∀ j, j < w → g j = g' j) → sf_pt g w = sf_pt g' w := by
  intro w
  induction w with
  | zero => intro _; rfl
  | succ w ih =>
    intro h
    show sf_pt g w + (if g w = 0 then 0 else 2 ^ w) = sf_pt g' w + (if g' w = 0 then 0 else 2 ^ w)
    rw [ih (fun j hj => h j (by omega)), h w (by omega)]
theorem i_vc_pattern {k : Nat} {u : SX} {v : SY} (I : i_Rel k u v) (hk : k + 5 ≤ 2560) (v1 : Int32) (v2 : Int32) : wpX_pattern (fun r => wpY_pattern (fun r' => r' = r ∧ i_Rel (k + 5) u v) v v1 v2) u v1 v2 := by
  obtain ⟨xP, xD, xC, xrk, xrw, xcl, xfm, xnm, xk, xa, xcp, xfi, xse, xsp, xin, xva⟩ := u
  obtain ⟨yP, yA, yD, yrk, yrw, ywi, yfm, yce, ykd, ynu, ysz, yva, yfi, yse, yat, ysp⟩ := v
  have I0 := I
  obtain ⟨n, c, d, ⟨rfl, rfl, rfl, rfl, rfl, rfl⟩, G, F⟩ := I
  unfold wpX_pattern wpY_pattern
  dsimp only
  by_cases hr : sf_rg v1
  · obtain ⟨r, hr, rfl⟩ := hr
    obtain ⟨q, h, w, f, a1, a2, a3, a4, p1, p2, p3, p4, S, O, O2⟩ := sf_reg G hr
    obtain ⟨s1, s2, s3, s4, s5⟩ := S
    have hx : vp_in (nI r) 6 := vp_in_nI hr (by decide)
    have hy : vp_in (nI r) 13 := vp_in_nI (by omega) (by decide)
    have ec : (nI r).toNatClampNeg = r := nI_clamp (by omega)
    rw [ec, a2, p2]
    by_cases h0 : v2 < 0
    · exact sx_reg_t hr (br_f (by decide) (br_t h0 (sy_reg_t hr (br_f (by decide) (br_t h0 ⟨rfl, I0⟩)))))
    · obtain ⟨i, hi, rfl⟩ := nI_of h0
      by_cases h1 : i < h
      · have h1' : nI i < nI h := nI_lt h1 (by omega)
        refine sx_reg_t hr (br_f (by decide) (br_f h0 ⟨hx, br_t h1' (sx_pat hr (by omega) a3 s4 ?_)⟩))
        refine sy_reg_t hr (br_f (by decide) (br_f h0 ⟨hy, br_t h1' (sy_pat hr (by omega) p3 s4 ⟨?_, I0⟩)⟩))
        exact congrArg nI (sf_pt_cg w (fun j hj => (G.2.1 _ (by omega)).symm))
      · have h1' : ¬ nI i < nI h := nI_nlt (by omega) (by omega)
        exact sx_reg_t hr (br_f (by decide) (br_f h0 ⟨hx, br_f h1' (sy_reg_t hr (br_f (by decide) (br_f h0 ⟨hy, br_f h1' ⟨rfl, I0⟩⟩)))⟩))
  · exact sx_reg_f hr (br_t rfl (sy_reg_f hr (br_t rfl ⟨rfl, I0⟩)))
end
section
def sf_dg (g : Nat → Int32) (k : Nat) : Int32 := nI (7 * (k / 6) + k % 6 + 1) * g k
theorem sf_dgx (i j : Nat) : 7 * nI i + nI j + 1 = nI (7 * i + j + 1) := by
  show nI 7 * nI i + nI j + 1 = _
  rw [pk_mul, nI_add, nI_1]
theorem sf_dg_ij (g : Nat → Int32) {i j : Nat} (hj : j < 6) : sf_dg g (6 * i + j) = nI (7 * i + j + 1) * g (6 * i + j) := by
  unfold sf_dg
  rw [show (6 * i + j) / 6 = i by omega, show (6 * i + j) % 6 = j by omega]
theorem sf_dgy {k : Nat} (hk : k < 36) : 7 * (nI k / 6) + (nI k - nI k / 6 * 6) + 1 = nI (7 * (k / 6) + k % 6 + 1) := by
  have e1 : nI k / 6 = nI (k / 6) := pk_div (d := 6) (by omega) (by decide) (by decide)
  have e2 : nI k - nI k / 6 * 6 = nI (k % 6) := pk_rem (d := 6) (by omega) (by decide) (by decide)
  rw [e2, e1]
  exact sf_dgx (k / 6) (k % 6)
theorem sx_dg27 {post : Int32 → Prop} {J : Int32 → Int32 → Prop} {xP xD xC : Int32} {xrk xrw xcl xfm xnm xk xa xcp xfi xse xsp xin xva : Nat → Int32} {r i w : Nat} {s0 : Int32} (hr : r < 6) (hi : i < 6) (e2 : xcl r = nI w) (hw : w ≤ 6) (p : J (s0 + bx_sum (fun j => sf_dg (fun k => xnm (36 * r + k)) (6 * i + j)) w) (nI (i + 1))) : ∃ n, wX_digest_27 post J (nI r) (nI i) xP xD xC xrk xrw xcl xfm xnm xk xa xcp xfi xse xsp xin xva n s0 0 := by
  have hv : vp_in (nI r) 6 := vp_in_nI hr (by decide)
  have ec : (nI r).toNatClampNeg = r := nI_clamp (by omega)
  refine pk_loop (fun n j (s : Int32) => wX_digest_27 post J (nI r) (nI i) xP xD xC xrk xrw xcl xfm xnm xk xa xcp xfi xse xsp xin xva n s (nI j)) (fun j s => s = s0 + bx_sum (fun j => sf_dg (fun k => xnm (36 * r + k)) (6 * i + j)) j) w 0 s0 (by omega) (Int32.add_zero s0).symm (fun n s hs => ⟨hv, br_t (by rw [ec, e2]; exact nI_le (by omega) (by omega)) (nm_r (nI_1 i) (by rw [hs]; exact p))⟩) (fun n j s hj hs k => ⟨hv, br_f (by rw [ec, e2]; exact nI_ge hj (by omega)) ?_⟩)
  have e : nI r * 36 + nI i * 6 + nI j = nI (36 * r + 6 * i + j) := sf_xi r i j
  have ec2 : (nI (36 * r + 6 * i + j)).toNatClampNeg = 36 * r + (6 * i + j) := by rw [nI_clamp (by omega)]; omega
  rw [e, ec2, sf_dgx]
  refine ⟨vp_in_nI (by omega) (by decide), nm_e (nm_r (nI_1 j) (k _ ?_))⟩
  rw [sm_s, hs, Int32.add_assoc, sf_dg_ij _ (by omega)]
theorem sx_dg {post : Int32 → Prop} {xP xD xC : Int32} {xrk xrw xcl xfm xnm xk xa xcp xfi xse xsp xin xva : Nat → Int32} {r h w : Nat} (hr : r < 6) (e1 : xrw r = nI h) (e2 : xcl r = nI w) (hh : h ≤ 6) (hw : w ≤ 6) (O : sf_Out h w (fun i => xnm (36 * r + i))) (p : post (bx_sum (sf_dg (fun k => xnm (36 * r + k))) 36)) : ∃ n, wX_digest_14 post (nI r) xP xD xC xrk xrw xcl xfm xnm xk xa xcp xfi xse xsp xin xva n 0 0 := by
  have hv : vp_in (nI r) 6 := vp_in_nI hr (by decide)
  have ec : (nI r).toNatClampNeg = r := nI_clamp (by omega)
  have O' : ∀ i j, i < 6 → j < 6 → (h ≤ i ∨ w ≤ j) → sf_dg (fun k => xnm (36 * r + k)) (6 * i + j) = 0 := by
    intro i j hi hj hz
    rw [sf_dg_ij _ hj, show xnm (36 * r + (6 * i + j)) = 0 from O i j hi hj hz, Int32.mul_zero]
  rw [sm_block hh hw O'] at p
  refine pk_loop (fun n i (s : Int32) => wX_digest_14 post (nI r) xP xD xC xrk xrw xcl xfm xnm xk xa xcp xfi xse xsp xin xva n s (nI i)) (fun i s => s = bx_sum (fun i => bx_sum (fun j => sf_dg (fun k => xnm (36 * r + k)) (6 * i + j)) w) i) h 0 0 (by omega) rfl (fun n s hs => ⟨hv, br_t (by rw [ec, e1]; exact nI_le (by omega) (by omega)) (by rw [hs]; exact p)⟩) (fun n i s hi hs k => ⟨hv, br_f (by rw [ec, e1]; exact nI_ge hi (by omega)) ?_⟩)
  exact sx_dg27 hr (by omega) e2 hw (k _ (by rw [sm_s, hs]))
theorem sy_dg {post : Int32 → Prop} {yP yA yD : Int32} {yrk yrw ywi yfm yce ykd ynu ysz yva yfi yse yat ysp : Nat → Int32} {r : Nat} (hr : r < 6) (p : post (bx_sum (sf_dg (fun k => yce (36 * r + k))) 36)) : ∃ n, wY_digest_15 post (nI r) yP yA yD yrk yrw ywi yfm yce ykd ynu ysz yva yfi yse yat ysp n 0 0 := by
  refine pk_loop (fun n i (s : Int32) => wY_digest_15 post (nI r) yP yA yD yrk yrw ywi yfm yce ykd ynu ysz yva yfi yse yat ysp n s (nI i)) (fun i s => s = bx_sum (sf_dg (fun k => yce (36 * r + k))) i) 36 0 0 (by omega) rfl (fun n s hs => br_t (nI_le (a := 36) (b := 36) (by omega) (by omega)) (by rw [hs]; exact p)) (fun n i s hi hs k => br_f (nI_ge (b := 36) hi (by omega)) ⟨by decide, by decide, ?_⟩)
  have e : 36 * nI r + nI i = nI (36 * r + i) := sf_yp r i
  have ec2 : (nI (36 * r + i)).toNatClampNeg = 36 * r + i := nI_clamp (by omega)
  rw [e, ec2, sf_dgy hi]
  exact ⟨vp_in_nI (by omega) (by decide), nm_e (nm_r (nI_1 i) (k _ (by rw [sm_s, hs]; rfl)))⟩
theorem i_vc_digest {k : Nat} {u : SX} {v : SY} (I : i_Rel k u v) (hk : k + 5 ≤ 2560) (v1 : Int32) : wpX_digest (fun r => wpY_digest (fun r' => r' = r ∧ i_Rel (k + 5) u v) v v1) u v1 := by
  obtain ⟨xP, xD, xC, xrk, xrw, xcl, xfm, xnm, xk, xa, xcp, xfi, xse, xsp, xin, xva⟩ := u
  obtain ⟨yP, yA, yD, yrk, yrw, ywi, yfm, yce, ykd, ynu, ysz, yva, yfi, yse, yat, ysp⟩ := v
  have I0 := I
  obtain ⟨n, c, d, ⟨rfl, rfl, rfl, rfl, rfl, rfl⟩, G, F⟩ := I
  unfold wpX_digest wpY_digest
  dsimp only
  by_cases hr : sf_rg v1
  · obtain ⟨r, hr, rfl⟩ := hr
    obtain ⟨q, h, w, f, a1, a2, a3, a4, p1, p2, p3, p4, S, O, O2⟩ := sf_reg G hr
    refine sx_reg_t hr (br_f (by decide) (sx_dg hr a2 a3 S.2.1 S.2.2.2.1 O2 ?_))
    refine sy_reg_t hr (br_f (by decide) (sy_dg hr ⟨?_, I0⟩))
    refine sm_cg 36 (fun i hi => ?_)
    show nI (7 * (i / 6) + i % 6 + 1) * yce (36 * r + i) = nI (7 * (i / 6) + i % 6 + 1) * xnm (36 * r + i)
    rw [G.2.1 (36 * r + i) (by omega)]
  · exact sx_reg_f hr (br_t rfl (sy_reg_f hr (br_t rfl ⟨rfl, I0⟩)))
theorem sf_sm {xP xD xC : Int32} {xrk xrw xcl xfm xnm xk xa xcp xfi xse xsp xin xva : Nat → Int32} {yP yA yD : Int32} {yrk yrw ywi yfm yce ykd ynu ysz yva yfi yse yat ysp : Nat → Int32} (e : ∀ k, k < 216 → xnm k = yce k) {r s : Nat} (hr : r < 6) (hs : s < 6) : ∀ d i : Nat, i + d = 36 → ∃ a : Int32, (∀ post : Int32 → Prop, post a → wX_same_65 post (nI r) (nI s) xP xD xC xrk xrw xcl xfm xnm xk xa xcp xfi xse xsp xin xva (d + 1) (nI i)) ∧ (∀ post : Int32 → Prop, post a → wY_same_65 post (nI r) (nI s) yP yA yD yrk yrw ywi yfm yce ykd ynu ysz yva yfi yse yat ysp (d + 1) (nI i)) := by
  intro d
  induction d with
  | zero =>
    intro i hi
    have h : (36 : Int32) ≤ nI i := nI_le (a := 36) (by omega) (by omega)
    exact ⟨1, fun _ hp => br_t h hp, fun _ hp => br_t h hp⟩
  | succ d ih =>
    intro i hi
    have h : ¬ (36 : Int32) ≤ nI i := nI_ge (b := 36) (by omega) (by omega)
    have x1 : nI r * 36 + nI i = nI (36 * r + i) := sf_xp r i
    have x2 : nI s * 36 + nI i = nI (36 * s + i) := sf_xp s i
    have y1 : 36 * nI r + nI i = nI (36 * r + i) := sf_yp r i
    have y2 : 36 * nI s + nI i = nI (36 * s + i) := sf_yp s i
    have c1 : (nI (36 * r + i)).toNatClampNeg = 36 * r + i := nI_clamp (by omega)
    have c2 : (nI (36 * s + i)).toNatClampNeg = 36 * s + i := nI_clamp (by omega)
    have vx1 : vp_in (nI r * 36 + nI i) 216 := by rw [x1]; exact vp_in_nI (by omega) (by decide)
    have vx2 : vp_in (nI s * 36 + nI i) 216 := by rw [x2]; exact vp_in_nI (by omega) (by decide)
    have vy1 : vp_in (36 * nI r + nI i) 468 := by rw [y1]; exact vp_in_nI (by omega) (by decide)
    have vy2 : vp_in (36 * nI s + nI i) 468 := by rw [y2]; exact vp_in_nI (by omega) (by decide)
    by_cases z : yce (36 * r + i) = yce (36 * s + i)
    · obtain ⟨a, hX, hY⟩ := ih (i + 1) (by omega)
      refine ⟨a, fun post hp => br_f h ⟨vx1, vx2, br_t ?_ (nm_r (nI_1 i) (hX post hp))⟩, fun post hp => br_f h ⟨vy1, vy2, br_t ?_ (nm_r (nI_1 i) (hY post hp))⟩⟩
      · rw [x1, x2, c1, c2, e _ (by omega), e _ (by omega)]; exact z
      · rw [y1, y2, c1, c2]; exact z
    · refine ⟨0, fun post hp => br_f h ⟨vx1, vx2, br_f ?_ hp⟩, fun post hp => br_f h ⟨vy1, vy2, br_f ?_ hp⟩⟩
      · rw [x1, x2, c1, c2, e _ (by omega), e _ (by omega)]; exact z
      · rw [y1, y2, c1, c2]; exact z
theorem i_vc_same {k : Nat} {u : SX} {v : SY} (I : i_Rel k u v) (hk : k + 5 ≤ 2560) (v1 : Int32) (v2 : Int32) : wpX_same (fun r => wpY_same (fun r' => r' = r ∧ i_Rel (k + 5) u v) v v1 v2) u v1 v2 := by
  obtain ⟨xP, xD, xC, xrk, xrw, xcl, xfm, xnm, xk, xa, xcp, xfi, xse, xsp, xin, xva⟩ := u
  obtain ⟨yP, yA, yD, yrk, yrw, ywi, yfm, yce, ykd, ynu, ysz, yva, yfi, yse, yat, ysp⟩ := v
  have I0 := I
  obtain ⟨n, c, d, ⟨rfl, rfl, rfl, rfl, rfl, rfl⟩, G, F⟩ := I
  unfold wpX_same wpY_same
  dsimp only
  by_cases hr : sf_rg v1
  · obtain ⟨r, hr, rfl⟩ := hr
    by_cases hs : sf_rg v2
    · obtain ⟨s, hs, rfl⟩ := hs
      obtain ⟨a1, a2, a3, a4⟩ := G.1 r hr
      obtain ⟨b1, b2, b3, b4⟩ := G.1 s hs
      have hx1 : vp_in (nI r) 6 := vp_in_nI hr (by decide)
      have hy1 : vp_in (nI r) 13 := vp_in_nI (by omega) (by decide)
      have hx2 : vp_in (nI s) 6 := vp_in_nI hs (by decide)
      have hy2 : vp_in (nI s) 13 := vp_in_nI (by omega) (by decide)
      have c1 : (nI r).toNatClampNeg = r := nI_clamp (by omega)
      have c2 : (nI s).toNatClampNeg = s := nI_clamp (by omega)
      rw [c1, c2, a1, a2, a3, b1, b2, b3]
      obtain ⟨a, hX, hY⟩ := sf_sm (xP := nI n) (xD := nI d) (xC := nI c) (xrk := xrk) (xrw := xrw) (xcl := xcl) (xfm := xfm) (xk := xk) (xa := xa) (xcp := xcp) (xfi := xfi) (xse := xse) (xsp := xsp) (xin := xin) (xva := xva) (yP := nI n) (yA := nI c) (yD := nI d) (yrk := yrk) (yrw := yrw) (ywi := ywi) (yfm := yfm) (ykd := ykd) (ynu := ynu) (ysz := ysz) (yva := yva) (yfi := yfi) (yse := yse) (yat := yat) (ysp := ysp) G.2.1 hr hs 36 0 rfl
      refine sx_reg_t hr (br_f (by decide) (sx_reg_t hs (br_f (by decide) ⟨hx1, hx2, br_c (fun z1 => ⟨hx1, hx2, br_c (fun z2 => ⟨hx1, hx2, br_c (fun z3 => ⟨_, hX _ ?_⟩) (fun z3 => ?_)⟩) (fun z2 => ?_)⟩) (fun z1 => ?_)⟩)))
      · exact sy_reg_t hr (br_f (by decide) (sy_reg_t hs (br_f (by decide) ⟨hy1, hy2, br_t z1 ⟨hy1, hy2, br_t z2 ⟨hy1, hy2, br_t z3 ⟨_, hY _ ⟨rfl, I0⟩⟩⟩⟩⟩)))
      · exact sy_reg_t hr (br_f (by decide) (sy_reg_t hs (br_f (by decide) ⟨hy1, hy2, br_t z1 ⟨hy1, hy2, br_t z2 ⟨hy1, hy2, br_f z3 ⟨rfl, I0⟩⟩⟩⟩)))
      · exact sy_reg_t hr (br_f (by decide) (sy_reg_t hs (br_f (by decide) ⟨hy1, hy2, br_t z1 ⟨hy1, hy2, br_f z2 ⟨rfl, I0⟩⟩⟩)))
      · exact sy_reg_t hr (br_f (by decide) (sy_reg_t hs (br_f (by decide) ⟨hy1, hy2, br_f z1 ⟨rfl, I0⟩⟩)))
    · exact sx_reg_t hr (br_f (by decide) (sx_reg_f hs (br_t rfl (sy_reg_t hr (br_f (by decide) (sy_reg_f hs (br_t rfl ⟨rfl, I0⟩)))))))
  · exact sx_reg_f hr (br_t rfl (sy_reg_f hr (br_t rfl ⟨rfl, I0⟩)))
end
section
theorem sx_swap {post : SX → Prop} {xP xD xC : Int32} {xrk xrw xcl xfm xnm xk xa xcp xfi xse xsp xin xva : Nat → Int32} {r : Nat} (hr : r < 6) (p : ∀ A, sf_sw r 6 0 xnm A → post (xP, xD, xC, xrk, xrw, xcl, xfm, A, xk, xa, xcp, xfi, xse, xsp, xin, xva)) : wpX_swapAcrossDiagonal post (xP, xD, xC, xrk, xrw, xcl, xfm, xnm, xk, xa, xcp, xfi, xse, xsp, xin, xva) (nI r) := by
  unfold wpX_swapAcrossDiagonal
  dsimp only
  refine pk_loop (fun n i (A : Nat → Int32) => wX_swapAcrossDiagonal_2 post (nI r) xP xD xC n (nI i) xrk xrw xcl xfm A xk xa xcp xfi xse xsp xin xva) (fun i A => sf_sw r i 0 xnm A) 6 0 xnm (by omega) (sf_sw_0 r xnm) (fun n A hA => br_t (nI_le (a := 6) (b := 6) (by omega) (by decide)) (p A hA)) (fun n i A hi hA k => br_f (nI_ge (b := 6) hi (by decide)) ?_)
  refine pk_loop (fun m j (A : Nat → Int32) => wX_swapAcrossDiagonal_10 post (wX_swapAcrossDiagonal_2 post (nI r) xP xD xC n) (nI r) (nI i) xP xD xC m (nI j) xrk xrw xcl xfm A xk xa xcp xfi xse xsp xin xva) (fun j A => sf_sw r i j xnm A) i 0 A (by omega) hA (fun m A hA => br_t (nI_le (a := i) (b := i) (by omega) (by omega)) (nm_r (nI_1 i) (k A (sf_sw_n hA)))) (fun m j A hj hA k => br_f (nI_ge hj (by omega)) ?_)
  have c1 : (nI (36 * r + 6 * i + j)).toNatClampNeg = 36 * r + 6 * i + j := nI_clamp (by omega)
  have c2 : (nI (36 * r + 6 * j + i)).toNatClampNeg = 36 * r + 6 * j + i := nI_clamp (by omega)
  have v1 : vp_in (nI (36 * r + 6 * i + j)) 216 := vp_in_nI (by omega) (by decide)
  have v2 : vp_in (nI (36 * r + 6 * j + i)) 216 := vp_in_nI (by omega) (by decide)
  refine nm_r (sf_xi r i j) (nm_r (sf_xi r j i) ⟨v1, nm_r (e' := A (36 * r + 6 * i + j)) (by rw [c1]) ⟨v2, v1, nm_r (e' := upd A (36 * r + 6 * i + j) (A (36 * r + 6 * j + i))) (by rw [c1, c2]) ⟨v2, nm_r (e' := upd (upd A (36 * r + 6 * i + j) (A (36 * r + 6 * j + i))) (36 * r + 6 * j + i) (A (36 * r + 6 * i + j))) (by rw [c2]) (nm_r (nI_1 j) (k _ (sf_sw_s hA hj hi)))⟩⟩⟩)
theorem sy_copy {post : SY → Prop} {yP yA yD : Int32} {yrk yrw ywi yfm yce ykd ynu ysz yva yfi yse yat ysp : Nat → Int32} {s t : Nat} (hs : s < 13) (ht : t < 13) (hne : s ≠ t) (p : ∀ A, sf_blk (36 * t) 36 (fun i => yce (36 * s + i)) yce A → post (yP, yA, yD, upd yrk t (yrk s), upd yrw t (yrw s), upd ywi t (ywi s), upd yfm t (yfm s), A, ykd, ynu, ysz, yva, yfi, yse, yat, ysp)) : wpY_copy post (yP, yA, yD, yrk, yrw, ywi, yfm, yce, ykd, ynu, ysz, yva, yfi, yse, yat, ysp) (nI s) (nI t) := by
  have v1 : vp_in (nI s) 13 := vp_in_nI hs (by decide)
  have v2 : vp_in (nI t) 13 := vp_in_nI ht (by decide)
  have c1 : (nI s).toNatClampNeg = s := nI_clamp (by omega)
  have c2 : (nI t).toNatClampNeg = t := nI_clamp (by omega)
  refine ⟨v1, v2, nm_r (e' := upd yrk t (yrk s)) (by rw [c1, c2]) ⟨v1, v2, nm_r (e' := upd yrw t (yrw s)) (by rw [c1, c2]) ⟨v1, v2, nm_r (e' := upd ywi t (ywi s)) (by rw [c1, c2]) ⟨v1, v2, nm_r (e' := upd yfm t (yfm s)) (by rw [c1, c2]) ?_⟩⟩⟩⟩
  refine pk_loop (fun n i (A : Nat → Int32) => wY_copy_50 post (nI s) (nI t) yP yA yD n (nI i) (upd yrk t (yrk s)) (upd yrw t (yrw s)) (upd ywi t (ywi s)) (upd yfm t (yfm s)) A ykd ynu ysz yva yfi yse yat ysp) (fun i A => sf_blk (36 * t) i (fun i => yce (36 * s + i)) yce A) 36 0 yce (by omega) (sf_blk_0 _ _ _) (fun n A hA => br_t (nI_le (a := 36) (b := 36) (by omega) (by decide)) (p A hA)) (fun n i A hi hA k => br_f (nI_ge (b := 36) hi (by decide)) ?_)
  have e1 : 36 * nI s + nI i = nI (36 * s + i) := sf_yp s i
  have e2 : 36 * nI t + nI i = nI (36 * t + i) := sf_yp t i
  have d1 : (nI (36 * s + i)).toNatClampNeg = 36 * s + i := nI_clamp (by omega)
  have d2 : (nI (36 * t + i)).toNatClampNeg = 36 * t + i := nI_clamp (by omega)
  refine ⟨by rw [e1]; exact vp_in_nI (by omega) (by decide), by rw [e2]; exact vp_in_nI (by omega) (by decide), nm_r (e' := upd A (36 * t + i) (A (36 * s + i))) (by rw [e1, e2, d1, d2]) (nm_r (nI_1 i) (k _ (sf_blk_s hA (hA.2 _ (by omega)))))⟩
theorem sy_turn97 {post : Int32 → SY → Prop} {yP yA yD : Int32} {yrk yrw ywi yfm yce ykd ynu ysz yva yfi yse yat ysp : Nat → Int32} {r : Nat} (hr : r < 6) (p : ∀ A, sf_tr r 36 (fun k => yce (432 + k)) yce A → post (yrw r) (yP, yA, yD, yrk, yrw, ywi, yfm, A, ykd, ynu, ysz, yva, yfi, yse, yat, ysp)) : ∃ n, wY_turn_97 post (nI r) yP yA yD n 0 yrk yrw ywi yfm yce ykd ynu ysz yva yfi yse yat ysp := by
  have hv : vp_in (nI r) 13 := vp_in_nI (by omega) (by decide)
  have ec : (nI r).toNatClampNeg = r := nI_clamp (by omega)
  refine pk_loop (fun n i (A : Nat → Int32) => wY_turn_97 post (nI r) yP yA yD n (nI i) yrk yrw ywi yfm A ykd ynu ysz yva yfi yse yat ysp) (fun i A => sf_tr r i (fun k => yce (432 + k)) yce A) 36 0 yce (by omega) (sf_tr_0 _ _ _) (fun n A hA => br_t (nI_le (a := 36) (b := 36) (by omega) (by decide)) ⟨hv, by rw [ec]; exact p A hA⟩) (fun n i A hi hA k => br_f (nI_ge (b := 36) hi (by decide)) ⟨by decide, by decide, ?_⟩)
  have e0 : 432 + nI i = nI (432 + i) := nI_add 432 i
  have e1 : nI i / 6 = nI (i / 6) := pk_div (d := 6) (by omega) (by decide) (by decide)
  have e2 : nI i - nI i / 6 * 6 = nI (i % 6) := pk_rem (d := 6) (by omega) (by decide) (by decide)
  have e3 : 36 * nI r + 6 * (nI i - nI i / 6 * 6) + nI i / 6 = nI (36 * r + 6 * (i % 6) + i / 6) := by
    rw [e2, e1]; exact sf_yi r (i % 6) (i / 6)
  have d1 : (nI (432 + i)).toNatClampNeg = 432 + i := nI_clamp (by omega)
  have d2 : (nI (36 * r + 6 * (i % 6) + i / 6)).toNatClampNeg = 36 * r + 6 * (i % 6) + i / 6 := nI_clamp (by omega)
  rw [e0, e3, d1, d2]
  exact ⟨vp_in_nI (by omega) (by decide), vp_in_nI (by omega) (by decide), nm_e (nm_r (nI_1 i) (k _ (sf_tr_s hA hi (hA.2 _ (by omega)))))⟩
theorem sf_tf (f : Nat) (hf : f ≤ 7) : ∃ g : Nat, g ≤ 7 ∧ (4 ≤ f → nI f - 4 = nI g) ∧ (¬ 4 ≤ f → nI f + 4 = nI g) := by
  by_cases h : 4 ≤ f
  · exact ⟨f - 4, by omega, fun _ => pk_sub (b := 4) h, fun z => absurd h z⟩
  · exact ⟨f + 4, by omega, fun z => absurd z h, fun _ => nI_add f 4⟩
theorem i_vc_turn {k : Nat} {u : SX} {v : SY} (I : i_Rel k u v) (hk : k + 5 ≤ 2560) (v1 : Int32) : wpX_turn (fun r u' => wpY_turn (fun r' v' => r' = r ∧ i_Rel (k + 5) u' v') v v1) u v1 := by
  obtain ⟨xP, xD, xC, xrk, xrw, xcl, xfm, xnm, xk, xa, xcp, xfi, xse, xsp, xin, xva⟩ := u
  obtain ⟨yP, yA, yD, yrk, yrw, ywi, yfm, yce, ykd, ynu, ysz, yva, yfi, yse, yat, ysp⟩ := v
  have I0 := I
  obtain ⟨n, c, d, ⟨rfl, rfl, rfl, rfl, rfl, rfl⟩, G, F⟩ := I
  unfold wpX_turn
  dsimp only
  by_cases hr : sf_rg v1
  · obtain ⟨r, hr, rfl⟩ := hr
    obtain ⟨q, h, w, f, a1, a2, a3, a4, p1, p2, p3, p4, S, O, O2⟩ := sf_reg G hr
    have S' := S
    obtain ⟨s1, s2, s3, s4, s5⟩ := S
    have hx : vp_in (nI r) 6 := vp_in_nI hr (by decide)
    have hy : vp_in (nI r) 13 := vp_in_nI (by omega) (by decide)
    have ec : (nI r).toNatClampNeg = r := nI_clamp (by omega)
    by_cases q2 : q = 2
    · subst q2
      obtain ⟨g, hg, g1, g2⟩ := sf_tf f (by omega)
      have YT : ∀ (A : Nat → Int32) (r0 : Int32), sf_sw r 6 0 xnm A → r0 = nI w → wpY_turn (fun r' v' => r' = r0 ∧ i_Rel (k + 5) (nI n, nI d, nI c, xrk, upd xrw r (nI w), upd xcl r (nI h), upd xfm r (nI g), A, xk, xa, xcp, xfi, xse, xsp, xin, xva) v') (nI n, nI c, nI d, yrk, yrw, ywi, yfm, yce, ykd, ynu, ysz, yva, yfi, yse, yat, ysp) (nI r) := by
        intro A r0 hA hr0
        obtain ⟨sw1, sw2⟩ := sf_sw_e hA
        unfold wpY_turn
        dsimp only
        rw [ec, p1]
        refine sy_reg_t hr (br_f (by decide) ⟨hy, br_t (by decide) (sy_copy (t := 12) (by omega) (by omega) (by omega) (fun B hB => ?_))⟩)
        dsimp only
        have t97 : ∃ n97 : Nat, wY_turn_97 (fun r' v' => r' = r0 ∧ i_Rel (k + 5) (nI n, nI d, nI c, xrk, upd xrw r (nI w), upd xcl r (nI h), upd xfm r (nI g), A, xk, xa, xcp, xfi, xse, xsp, xin, xva) v') (nI r) (nI n) (nI c) (nI d) n97 0 (upd yrk 12 (yrk r)) (upd (upd yrw 12 (yrw r)) r (nI w)) (upd (upd ywi 12 (ywi r)) r (nI h)) (upd (upd yfm 12 (yfm r)) r (nI g)) B ykd ynu ysz yva yfi yse yat ysp := by
          refine sy_turn97 hr (fun C hC => ⟨by rw [pk_us, hr0], sf_mk (sf_Regs_turn hr G p1 S' hg O sw1 sw2 (fun a b ha hb => ?_) (fun j hj hz => ?_) (fun s hs => ⟨pk_un (by omega), fun z => ⟨?_, ?_, ?_⟩⟩) ⟨pk_us, pk_us, pk_us⟩) (sf_Form_cg F (fun j h1 h2 => ?_) (fun s h1 h2 => ?_) (fun s h1 h2 => ?_))⟩)
          · rw [sf_tr_e hC a b ha hb]
            have := hB.1 (6 * b + a) (by omega)
            rw [show 36 * 12 + (6 * b + a) = 432 + (6 * b + a) by omega] at this
            rw [this]
            show yce (36 * r + (6 * b + a)) = _
            rw [← Nat.add_assoc]
          · rw [hC.2 j hz, hB.2 j (by omega)]
          · rw [pk_un z, pk_un (by omega)]
          · rw [pk_un z, pk_un (by omega)]
          · rw [pk_un z, pk_un (by omega)]
          · rw [hC.2 j (by omega), hB.2 j (by omega)]
          · rw [pk_un (by omega), pk_un (by omega)]
          · rw [pk_un (by omega), pk_un (by omega)]
        have n12 : (12 : Nat) ≠ r := by omega
        refine ⟨hy, nm_r (e' := upd (upd yrw 12 (yrw r)) r (nI w)) (by rw [pk_us, p3]) ⟨hy, nm_r (e' := upd (upd ywi 12 (ywi r)) r (nI h)) (by rw [pk_un n12, pk_us, p2]) ?_⟩⟩
        rw [pk_us, p4]
        refine br_c (fun z => ⟨hy, nm_r (e' := upd (upd yfm 12 (yfm r)) r (nI g)) ?_ ?_⟩) (fun z => ⟨hy, nm_r (e' := upd (upd yfm 12 (yfm r)) r (nI g)) ?_ ?_⟩)
        · rw [g1 ((nI_leI (a := 4) (by decide) (by omega)).mp z), p4]
        · exact t97
        · rw [g2 (fun y => z (nI_le (a := 4) y (by omega))), p4]
        · exact t97
      rw [ec, a1]
      refine sx_reg_t hr (br_f (by decide) ⟨hx, br_t rfl (sx_swap hr (fun A hA => ?_))⟩)
      dsimp only
      refine ⟨hx, nm_r (e' := nI h) a2 ⟨hx, hx, nm_r (e' := upd xrw r (nI w)) (by rw [a3]) ⟨hx, nm_e ⟨hx, ?_⟩⟩⟩⟩
      rw [a4]
      refine br_c (fun z => ⟨hx, hx, nm_r (e' := upd xfm r (nI g)) ?_ ⟨hx, ?_⟩⟩) (fun z => ⟨hx, hx, nm_r (e' := upd xfm r (nI g)) ?_ ⟨hx, ?_⟩⟩)
      · rw [g1 ((nI_leI (a := 4) (by decide) (by omega)).mp z)]
      · exact YT A _ hA pk_us
      · rw [g2 (fun y => z (nI_le (a := 4) y (by omega)))]
      · exact YT A _ hA pk_us
    · rw [ec, a1]
      refine sx_reg_t hr (br_f (by decide) ⟨hx, br_f (fun y => q2 ((nI_eq (b := 2) (by omega) (by decide)).mp y)) ?_⟩)
      unfold wpY_turn
      dsimp only
      rw [ec, p1]
      exact sy_reg_t hr (br_f (by decide) ⟨hy, br_f (nI_ge (b := 2) (by omega) (by decide)) ⟨rfl, I0⟩⟩)
  · refine sx_reg_f hr (br_t rfl ?_)
    unfold wpY_turn
    dsimp only
    exact sy_reg_f hr (br_t rfl ⟨rfl, I0⟩)
end
section
def sf_In (i : Nat) (rk rw cl fm nm : Nat → Int32) : Prop := (∀ s, s < i → rk s = 0 ∧ rw s = 1 ∧ cl s = 1 ∧ fm s = 0) ∧ ∀ k, nm k = 0
theorem sf_In_s {i : Nat} {rk rw cl fm nm A : Nat → Int32} (h : sf_In i rk rw cl fm nm) (hA : sf_blk (36 * i) 36 (fun _ => 0) nm A) : sf_In (i + 1) (upd rk i 0) (upd rw i 1) (upd cl i 1) (upd fm i 0) A := by
  refine ⟨fun s hs => ?_, fun k => ?_⟩
  · by_cases z : s = i
    · rw [z, pk_us, pk_us, pk_us, pk_us]; exact ⟨rfl, rfl, rfl, rfl⟩
    · rw [pk_un z, pk_un z, pk_un z, pk_un z]; exact h.1 s (by omega)
  · by_cases z : 36 * i ≤ k ∧ k < 36 * i + 36
    · have := hA.1 (k - 36 * i) (by omega)
      rw [show 36 * i + (k - 36 * i) = k by omega] at this
      exact this
    · rw [hA.2 k (by omega)]; exact h.2 k
theorem sf_In_e {xrk xrw xcl xfm xnm yrk yrw ywi yfm yce : Nat → Int32} (hx : sf_In 6 xrk xrw xcl xfm xnm) (hy : sf_In 13 yrk yrw ywi yfm yce) : sf_Regs xrk xrw xcl xfm xnm yrk yrw ywi yfm yce := by
  refine ⟨fun r hr => ?_, fun k _ => by rw [hx.2, hy.2], fun r hr => ?_⟩
  · obtain ⟨a1, a2, a3, a4⟩ := hx.1 r hr
    obtain ⟨b1, b2, b3, b4⟩ := hy.1 r (by omega)
    rw [a1, a2, a3, a4, b1, b2, b3, b4]
    exact ⟨rfl, rfl, rfl, rfl⟩
  · obtain ⟨b1, b2, b3, b4⟩ := hy.1 r (by omega)
    exact ⟨0, 1, 1, 0, b1, b2, b3, b4, ⟨by omega, by omega, by omega, by omega, Or.inl ⟨rfl, rfl, rfl, rfl⟩⟩, fun i j _ _ _ => hy.2 _⟩
theorem sx_init {post : SX → Prop} (p : ∀ xrk xrw xcl xfm xnm, sf_In 6 xrk xrw xcl xfm xnm → post (nI 0, nI 0, nI 0, xrk, xrw, xcl, xfm, xnm, fun _ => 0, fun _ => 0, fun _ => 0, fun _ => 0, fun _ => 0, fun _ => 0, fun _ => 0, fun _ => 0)) : wpX_init post := by
  unfold wpX_init
  refine pk_loop (fun n i (s : (Nat → Int32) × (Nat → Int32) × (Nat → Int32) × (Nat → Int32) × (Nat → Int32)) => wX_init_111 post n (nI i) 0 0 0 s.1 s.2.1 s.2.2.1 s.2.2.2.1 s.2.2.2.2 (fun _ => 0) (fun _ => 0) (fun _ => 0) (fun _ => 0) (fun _ => 0) (fun _ => 0) (fun _ => 0) (fun _ => 0)) (fun i s => sf_In i s.1 s.2.1 s.2.2.1 s.2.2.2.1 s.2.2.2.2) 6 0 (fun _ => 0, fun _ => 0, fun _ => 0, fun _ => 0, fun _ => 0) (by omega) ⟨fun s hs => absurd hs (Nat.not_lt_zero s), fun _ => rfl⟩ (fun n s hs => br_t (nI_le (a := 6) (b := 6) (by omega) (by decide)) ?_) (fun n i s hi hs k => br_f (nI_ge (b := 6) hi (by decide)) (sx_shape hi 0 1 1 0 (fun A hA => nm_r (nI_1 i) (k (_, _, _, _, A) (sf_In_s hs hA)))))
  exact p _ _ _ _ _ hs
theorem sy_init {post : SY → Prop} (p : ∀ yrk yrw ywi yfm yce, sf_In 13 yrk yrw ywi yfm yce → post (nI 0, nI 0, nI 0, yrk, yrw, ywi, yfm, yce, fun _ => 0, fun _ => 0, fun _ => 0, fun _ => 0, fun _ => 0, fun _ => 0, fun _ => 0, fun _ => 0)) : wpY_init post := by
  unfold wpY_init
  refine pk_loop (fun n i (s : (Nat → Int32) × (Nat → Int32) × (Nat → Int32) × (Nat → Int32) × (Nat → Int32)) => wY_init_109 post n (nI i) 0 0 0 s.1 s.2.1 s.2.2.1 s.2.2.2.1 s.2.2.2.2 (fun _ => 0) (fun _ => 0) (fun _ => 0) (fun _ => 0) (fun _ => 0) (fun _ => 0) (fun _ => 0) (fun _ => 0)) (fun i s => sf_In i s.1 s.2.1 s.2.2.1 s.2.2.2.1 s.2.2.2.2) 13 0 (fun _ => 0, fun _ => 0, fun _ => 0, fun _ => 0, fun _ => 0) (by omega) ⟨fun s hs => absurd hs (Nat.not_lt_zero s), fun _ => rfl⟩ (fun n s hs => br_t (nI_le (a := 13) (b := 13) (by omega) (by decide)) ?_) (fun n i s hi hs k => br_f (nI_ge (b := 13) hi (by decide)) (sy_shapeN (n := 0) (m := 0) hi (by omega) (by omega) (fun A hA => nm_r (nI_1 i) (k (_, _, _, _, A) (sf_In_s hs hA)))))
  exact p _ _ _ _ _ hs
theorem i_vc0 : wpX_init (fun u => wpY_init (fun v => i_Rel 0 u v)) :=
  sx_init (fun _ _ _ _ _ hx => sy_init (fun _ _ _ _ _ hy => sf_mk (n := 0) (c := 0) (d := 0) (sf_In_e hx hy) (sf_Form_0 _ _ _ _ _ _ _ _ _ _ _ _ _ _)))
end
section
theorem sf_3a (d p : Nat) : nI d * 3 + nI p = nI (3 * d + p) := by
  show nI d * nI 3 + nI p = _
  rw [pk_mul, nI_add]
  exact congrArg nI (by omega)
theorem sx_addPart {post : SX → Prop} {xD xC : Int32} {xrk xrw xcl xfm xnm xk xa xcp xfi xse xsp xin xva : Nat → Int32} {n : Nat} {a b : Int32} (hn : n < 20) (p : post (nI (n + 1), xD, xC, xrk, xrw, xcl, xfm, xnm, upd xk n a, upd xa n b, xcp, xfi, xse, xsp, xin, xva)) : wpX_addPart post (nI n, xD, xC, xrk, xrw, xcl, xfm, xnm, xk, xa, xcp, xfi, xse, xsp, xin, xva) a b := by
  have hv : vp_in (nI n) 20 := vp_in_nI hn (by decide)
  have ec : (nI n).toNatClampNeg = n := nI_clamp (by omega)
  exact ⟨hv, nm_r (e' := upd xk n a) (by rw [ec]) ⟨hv, nm_r (e' := upd xa n b) (by rw [ec]) (nm_r (nI_1 n) p)⟩⟩
theorem sx_pushW {post : SX → Prop} {xP xC : Int32} {xrk xrw xcl xfm xnm xk xa xcp xfi xse xsp xin xva : Nat → Int32} {d : Nat} (hd : d < 6) (p : ∀ A, sf_blk (3 * d) 3 (fun _ => 0) xsp A → post (xP, nI (d + 1), xC, xrk, xrw, xcl, xfm, xnm, xk, xa, xcp, xfi, xse, A, xin, xva)) : wpX_pushWithoutIndices post (xP, nI d, xC, xrk, xrw, xcl, xfm, xnm, xk, xa, xcp, xfi, xse, xsp, xin, xva) := by
  unfold wpX_pushWithoutIndices
  dsimp only
  refine pk_loop (fun n i (A : Nat → Int32) => wX_pushWithoutIndices_2 post xP (nI d) xC n (nI i) xrk xrw xcl xfm xnm xk xa xcp xfi xse A xin xva) (fun i A => sf_blk (3 * d) i (fun _ => 0) xsp A) 3 0 xsp (by omega) (sf_blk_0 _ _ _) (fun n A hA => br_t (nI_le (a := 3) (b := 3) (by omega) (by decide)) (nm_r (nI_1 d) (p A hA))) (fun n i A hi hA k => br_f (nI_ge (b := 3) hi (by decide)) ?_)
  have e := sf_3a d i
  refine ⟨by rw [e]; exact vp_in_nI (by omega) (by decide), nm_r (e' := upd A (3 * d + i) 0) (by rw [e, nI_clamp (by omega)]) (nm_r (nI_1 i) (k _ (sf_blk_s hA rfl)))⟩
theorem sy_addE {post : Int32 → SY → Prop} {yA : Int32} {yrk yrw ywi yfm yce ykd ynu ysz yva yfi yse yat ysp : Nat → Int32} {n d t m : Nat} {a b s : Int32} (hn : n < 20) (hd : d ≤ 6) (ht : t ≤ d) (ht2 : t ≤ 2) (p : post (nI (d + 1 - t)) (nI (n + 1), yA, nI (d + 1 - t), yrk, yrw, ywi, yfm, yce, upd ykd n a, upd ynu n b, upd ysz n s, yva, yfi, yse, yat, ysp)) : wY_add_6 post a b (nI t) (nI n) yA (nI d) yrk yrw ywi yfm yce ykd ynu ysz yva yfi yse yat ysp (m + 1) s (nI t) := by
  have hv : vp_in (nI n) 20 := vp_in_nI hn (by decide)
  have ec : (nI n).toNatClampNeg = n := nI_clamp (by omega)
  refine br_t (nI_le (by omega) (by omega)) ⟨hv, nm_r (e' := upd ykd n a) (by rw [ec]) ⟨hv, nm_r (e' := upd ynu n b) (by rw [ec]) ⟨hv, nm_r (e' := upd ysz n s) (by rw [ec]) (nm_r (nI_1 n) (nm_r (e' := nI (d + 1 - t)) ?_ p))⟩⟩⟩
  rw [nI_1, pk_sub (by omega)]
theorem sy_addS {post : Int32 → SY → Prop} {yA yD : Int32} {yrk yrw ywi yfm yce ykd ynu ysz yva yfi yse yat ysp : Nat → Int32} {n t i s z m : Nat} {a b : Int32} (hn : n ≤ 20) (hs : s ≤ n) (hs1 : 1 ≤ s) (hi : i < t) (ht : t ≤ 2) (e : ysz (n - s) = nI z) (p : wY_add_6 post a b (nI t) (nI n) yA yD yrk yrw ywi yfm yce ykd ynu ysz yva yfi yse yat ysp m (nI (s + z)) (nI (i + 1))) : wY_add_6 post a b (nI t) (nI n) yA yD yrk yrw ywi yfm yce ykd ynu ysz yva yfi yse yat ysp (m + 1) (nI s) (nI i) := by
  have e1 : nI n - nI s = nI (n - s) := pk_sub hs
  refine br_f (nI_ge hi (by omega)) ⟨by rw [e1]; exact vp_in_nI (by omega) (by decide), nm_r (e' := nI (s + z)) ?_ (nm_r (nI_1 i) p)⟩
  rw [e1, nI_clamp (by omega), e, nI_add]
theorem i_vc_constant {k : Nat} {u : SX} {v : SY} (I : i_Rel k u v) (hk : k + 5 ≤ 2560) (v1 : Int32) : wpX_constant (fun r u' => wpY_constant (fun r' v' => r' = r ∧ i_Rel (k + 5) u' v') v v1) u v1 := by
  obtain ⟨xP, xD, xC, xrk, xrw, xcl, xfm, xnm, xk, xa, xcp, xfi, xse, xsp, xin, xva⟩ := u
  obtain ⟨yP, yA, yD, yrk, yrw, ywi, yfm, yce, ykd, ynu, ysz, yva, yfi, yse, yat, ysp⟩ := v
  have I0 := I
  obtain ⟨n, c, d, ⟨rfl, rfl, rfl, rfl, rfl, rfl⟩, G, F⟩ := I
  have F' := F
  obtain ⟨f1, f2, f3, f4, f5, f6, f7⟩ := F
  unfold wpX_constant
  dsimp only
  by_cases h1 : v1 < -99
  · exact br_t h1 (br_t h1 ⟨rfl, I0⟩)
  by_cases h2 : v1 ≤ 99
  · by_cases hn : n = 20
    · exact br_f h1 (br_t h2 (br_t (nI_le (a := 20) (by omega) (by omega)) (br_f h1 (br_t h2 (br_t (by rw [hn]; rfl) ⟨rfl, I0⟩)))))
    · have hn' : ¬ nI n = 20 := fun y => hn ((nI_eq (b := 20) (by omega) (by decide)).mp y)
      by_cases hd : d = 6
      · exact br_f h1 (br_t h2 (br_f (nI_ge (b := 20) (by omega) (by decide)) (br_f (nI_nlt (b := 6) (by omega) (by omega)) (br_f h1 (br_t h2 (br_f hn' (br_t (by rw [hd]; rfl) ⟨rfl, I0⟩)))))))
      · have hd' : ¬ nI d = 6 := fun y => hd ((nI_eq (b := 6) (by omega) (by decide)).mp y)
        refine br_f h1 (br_t h2 (br_f (nI_ge (b := 20) (by omega) (by decide)) (br_t (nI_lt (b := 6) (by omega) (by decide)) (sx_addPart (by omega) (sx_pushW (by omega) (fun A hA => ?_))))))
        dsimp only
        refine br_f h1 (br_t h2 (br_f hn' (br_f hd' ⟨0 + 1, sy_addE (s := nI 1) (t := 0) (by omega) f3 (by omega) (by omega) ⟨rfl, ?_⟩⟩)))
        have eE : sf_E ykd n (d - 0) = n := by rw [Nat.sub_zero, ← f4]; exact sf_E_top ykd n
        refine sf_mk G (sf_push (t := 0) F' (by omega) (Nat.le_refl c) f2 (by rw [pk_us]; rfl) (by omega) (by omega) (fun j hj => pk_un (by omega)) (fun j hj => pk_un (by omega)) (fun j hj => pk_un (by omega)) (fun j hj => pk_un (by omega)) (fun j hj => pk_un (by omega)) ?_ (Or.inl ⟨pk_us, pk_us, by rw [pk_us, pk_us]⟩) f6 (fun a ha => ⟨rfl, rfl, rfl, rfl⟩) (fun k p hk hp => hA.2 _ (by omega)) (fun p hp => ?_))
        · rw [pk_us, eE]
          exact congrArg nI (by omega)
        · rw [eE, Nat.sub_self, sf_fs_0, sf_cs_0l, sf_cb_no (by rw [pk_us]; decide)]
          exact hA.1 p hp
  · exact br_f h1 (br_f h2 (br_f h1 (br_f h2 ⟨rfl, I0⟩)))
theorem i_vc_negate {k : Nat} {u : SX} {v : SY} (I : i_Rel k u v) (hk : k + 5 ≤ 2560) : wpX_negate (fun r u' => wpY_negate (fun r' v' => r' = r ∧ i_Rel (k + 5) u' v') v) u := by
  obtain ⟨xP, xD, xC, xrk, xrw, xcl, xfm, xnm, xk, xa, xcp, xfi, xse, xsp, xin, xva⟩ := u
  obtain ⟨yP, yA, yD, yrk, yrw, ywi, yfm, yce, ykd, ynu, ysz, yva, yfi, yse, yat, ysp⟩ := v
  have I0 := I
  obtain ⟨n, c, d, ⟨rfl, rfl, rfl, rfl, rfl, rfl⟩, G, F⟩ := I
  have F' := F
  obtain ⟨f1, f2, f3, f4, f5, f6, f7⟩ := F
  unfold wpX_negate
  dsimp only
  by_cases hn : n = 20
  · exact br_f (nI_nlt (b := 20) (by omega) (by omega)) (br_t (by rw [hn]; rfl) ⟨rfl, I0⟩)
  have hn' : ¬ nI n = 20 := fun y => hn ((nI_eq (b := 20) (by omega) (by decide)).mp y)
  have hn2 : nI n < 20 := nI_lt (b := 20) (by omega) (by decide)
  by_cases hd : d = 0
  · exact br_t hn2 (br_f (nI_ge (b := 1) (by omega) (by decide)) (br_f hn' (br_t (by rw [hd]; rfl) ⟨rfl, I0⟩)))
  obtain ⟨g1, g2, g3⟩ := sf_size1 F' (by omega)
  refine br_t hn2 (br_t (nI_le (a := 1) (by omega) (by omega)) (sx_addPart (by omega) ?_))
  dsimp only
  refine br_f hn' (br_f (nI_ne0 (by omega) (by omega)) ⟨0 + 1 + 1, sy_addS (s := 1) (t := 1) (i := 0) f1 (by omega) (by omega) (by omega) (by omega) g3 (sy_addE (t := 1) (by omega) f3 (by omega) (by omega) ⟨?_, ?_⟩)⟩)
  · exact congrArg nI (by omega)
  · have ed : d + 1 - 1 = d := by omega
    have := sf_push (t := 1) (c' := c) (xk' := upd xk n 5) (xa' := upd xa n 0) (ykd' := upd ykd n 2) (ynu' := upd ynu n 0) (ysz' := upd ysz n (nI (1 + (n - sf_E ykd n (d - 1))))) (xsp' := xsp) (yce' := yce) (xcp' := xcp) (xfi' := xfi) (xse' := xse) (yfi' := yfi) (yse' := yse) (yrw' := yrw) (ywi' := ywi) F' (by omega) (Nat.le_refl c) f2 (by rw [pk_us]; rfl) (by omega) (by omega) (fun j hj => pk_un (by omega)) (fun j hj => pk_un (by omega)) (fun j hj => pk_un (by omega)) (fun j hj => pk_un (by omega)) (fun j hj => pk_un (by omega)) (by rw [pk_us]; exact congrArg nI (by omega)) (Or.inr (Or.inr (Or.inl ⟨pk_us, pk_us⟩))) f6 (fun a ha => ⟨rfl, rfl, rfl, rfl⟩) (fun k p hk hp => rfl) (fun p hp => by rw [sf_cb_no (by rw [pk_us]; decide), sf_cs_0r]; exact sf_top F' (by omega) p hp)
    rw [ed] at this ⊢
    exact sf_mk G this
theorem sx_cs {post : Int32 → Prop} {a b : Int32} (p : post (sf_cs a b)) : wpX_commonSpan post a b := by
  unfold sf_cs at p
  refine br_c (fun z => ?_) (fun z => br_c (fun z2 => ?_) (fun z2 => br_c (fun z3 => ?_) (fun z3 => ?_)))
  · rw [if_pos (Or.inl z)] at p; exact p
  · rw [if_pos (Or.inr z2)] at p; exact p
  · rw [if_neg (fun y => y.elim z z2), if_pos z3] at p; exact p
  · rw [if_neg (fun y => y.elim z z2), if_neg z3] at p; exact p
theorem sx_join53 {post : Int32 → SX → Prop} {xP xC : Int32} {xrk xrw xcl xfm xnm xk xa xcp xfi xse xsp xin xva : Nat → Int32} {d : Nat} (hd : 2 ≤ d) (hd6 : d ≤ 6) (p : ∀ A, sf_blk (3 * (d - 2)) 3 (fun p => sf_cs (xsp (3 * (d - 2) + p)) (xsp (3 * (d - 1) + p))) xsp A → post (nI (d - 1)) (xP, nI (d - 1), xC, xrk, xrw, xcl, xfm, xnm, xk, xa, xcp, xfi, xse, A, xin, xva)) : ∃ n, wX_join_53 post xP (nI (d - 1)) xC n 0 xrk xrw xcl xfm xnm xk xa xcp xfi xse xsp xin xva := by
  refine pk_loop (fun n i (A : Nat → Int32) => wX_join_53 post xP (nI (d - 1)) xC n (nI i) xrk xrw xcl xfm xnm xk xa xcp xfi xse A xin xva) (fun i A => sf_blk (3 * (d - 2)) i (fun p => sf_cs (xsp (3 * (d - 2) + p)) (xsp (3 * (d - 1) + p))) xsp A) 3 0 xsp (by omega) (sf_blk_0 _ _ _) (fun n A hA => br_t (nI_le (a := 3) (b := 3) (by omega) (by decide)) (p A hA)) (fun n i A hi hA k => br_f (nI_ge (b := 3) hi (by decide)) ?_)
  have e0 : nI (d - 1) - 1 = nI (d - 2) := by
    have := pk_sub (a := d - 1) (b := 1) (by omega)
    rw [show d - 1 - 1 = d - 2 by omega] at this
    exact this
  have e1 : (nI (d - 1) - 1) * 3 + nI i = nI (3 * (d - 2) + i) := by rw [e0]; exact sf_3a (d - 2) i
  have e2 : nI (d - 1) * 3 + nI i = nI (3 * (d - 1) + i) := sf_3a (d - 1) i
  have c1 : (nI (3 * (d - 2) + i)).toNatClampNeg = 3 * (d - 2) + i := nI_clamp (by omega)
  have c2 : (nI (3 * (d - 1) + i)).toNatClampNeg = 3 * (d - 1) + i := nI_clamp (by omega)
  have v1 : vp_in (nI (3 * (d - 2) + i)) 18 := vp_in_nI (by omega) (by decide)
  have v2 : vp_in (nI (3 * (d - 1) + i)) 18 := vp_in_nI (by omega) (by decide)
  refine nm_r e1 (nm_r e2 ⟨v1, v2, sx_cs ⟨v1, nm_r (e' := upd A (3 * (d - 2) + i) (sf_cs (A (3 * (d - 2) + i)) (A (3 * (d - 1) + i)))) (by rw [c1, c2]) (nm_r (nI_1 i) (k _ (sf_blk_s hA ?_)))⟩⟩)
  show sf_cs (A (3 * (d - 2) + i)) (A (3 * (d - 1) + i)) = sf_cs (xsp (3 * (d - 2) + i)) (xsp (3 * (d - 1) + i))
  rw [hA.2 (3 * (d - 2) + i) (by omega), hA.2 (3 * (d - 1) + i) (by omega)]
theorem i_vc_join {k : Nat} {u : SX} {v : SY} (I : i_Rel k u v) (hk : k + 5 ≤ 2560) (v1 : Int32) : wpX_join (fun r u' => wpY_join (fun r' v' => r' = r ∧ i_Rel (k + 5) u' v') v v1) u v1 := by
  obtain ⟨xP, xD, xC, xrk, xrw, xcl, xfm, xnm, xk, xa, xcp, xfi, xse, xsp, xin, xva⟩ := u
  obtain ⟨yP, yA, yD, yrk, yrw, ywi, yfm, yce, ykd, ynu, ysz, yva, yfi, yse, yat, ysp⟩ := v
  have I0 := I
  obtain ⟨n, c, d, ⟨rfl, rfl, rfl, rfl, rfl, rfl⟩, G, F⟩ := I
  have F' := F
  obtain ⟨f1, f2, f3, f4, f5, f6, f7⟩ := F
  unfold wpX_join
  dsimp only
  by_cases h1 : v1 < 0
  · exact br_t h1 (br_t h1 ⟨rfl, I0⟩)
  by_cases h2 : v1 ≤ 2
  · by_cases hn : n = 20
    · exact br_f h1 (br_t h2 (br_f (nI_nlt (b := 20) (by omega) (by omega)) (br_f h1 (br_t h2 (br_t (by rw [hn]; rfl) ⟨rfl, I0⟩)))))
    have hn' : ¬ nI n = 20 := fun y => hn ((nI_eq (b := 20) (by omega) (by decide)).mp y)
    have hn2 : nI n < 20 := nI_lt (b := 20) (by omega) (by decide)
    by_cases hd : d < 2
    · have hd' : ¬ 2 ≤ nI d := nI_ge (b := 2) hd (by decide)
      exact br_f h1 (br_t h2 (br_t hn2 (br_f hd' (br_f h1 (br_t h2 (br_f hn' (br_f hd' ⟨rfl, I0⟩)))))))
    have hd' : 2 ≤ nI d := nI_le (a := 2) (by omega) (by omega)
    obtain ⟨t, ht, rfl⟩ := nI_of2 (n := 2) (by decide) h1 h2
    obtain ⟨g1, g2, g3⟩ := sf_size1 F' (by omega)
    obtain ⟨g4, g5, g6⟩ := sf_size2 F' (by omega)
    refine br_f h1 (br_t h2 (br_t hn2 (br_t hd' (sx_addPart (by omega) ?_))))
    dsimp only
    refine nm_r (e' := nI (d - 1)) (pk_sub (b := 1) (by omega)) (sx_join53 (by omega) f3 (fun A hA => ?_))
    have e3 : (3 : Int32) + nI t = nI (3 + t) := nI_add 3 t
    refine br_f h1 (br_t h2 (br_f hn' (br_t hd' ⟨0 + 1 + 1 + 1, sy_addS (s := 1) (t := 2) (i := 0) f1 (by omega) (by omega) (by omega) (by omega) g3 (sy_addS (s := 1 + (n - sf_E ykd n (d - 1))) (z := sf_E ykd n (d - 1) - sf_E ykd n (d - 2)) (t := 2) (i := 1) f1 (by omega) (by omega) (by omega) (by omega) ?_ (sy_addE (t := 2) (by omega) f3 (by omega) (by omega) ⟨?_, ?_⟩))⟩)))
    · rw [show n - (1 + (n - sf_E ykd n (d - 1))) = sf_E ykd n (d - 1) - 1 by omega]; exact g6
    · exact congrArg nI (by omega)
    · have ed : d + 1 - 2 = d - 1 := by omega
      rw [e3]
      have := sf_push (t := 2) (c' := c) (xk' := upd xk n (nI t)) (xa' := upd xa n 0) (ykd' := upd ykd n (nI (3 + t))) (ynu' := upd ynu n 0) (ysz' := upd ysz n (nI (1 + (n - sf_E ykd n (d - 1)) + (sf_E ykd n (d - 1) - sf_E ykd n (d - 2))))) (xsp' := A) (yce' := yce) (xcp' := xcp) (xfi' := xfi) (xse' := xse) (yfi' := yfi) (yse' := yse) (yrw' := yrw) (ywi' := ywi) F' (by omega) (Nat.le_refl c) f2 (by rw [pk_us]; exact sf_ar3 t (by omega)) (by omega) (by omega) (fun j hj => pk_un (by omega)) (fun j hj => pk_un (by omega)) (fun j hj => pk_un (by omega)) (fun j hj => pk_un (by omega)) (fun j hj => pk_un (by omega)) (by rw [pk_us]; exact congrArg nI (by omega)) (Or.inr (Or.inr (Or.inr ⟨t, by omega, pk_us, pk_us⟩))) f6 (fun a ha => ⟨rfl, rfl, rfl, rfl⟩) (fun k p hk hp => hA.2 _ (by omega)) (fun p hp => by
        have n1 : ∀ t, t < 3 → ¬ nI (3 + t) = 1 := by decide
        rw [sf_cb_no (by rw [pk_us]; exact n1 t (by omega)), sf_cs_0r, ← sf_top2 F' (by omega) p hp]
        exact hA.1 p hp)
      rw [ed] at this ⊢
      exact sf_mk G this
  · exact br_f h1 (br_f h2 (br_f h1 (br_f h2 ⟨rfl, I0⟩)))
end
section
theorem sx_copyReg {post : SX → Prop} {xP xD : Int32} {xrk xrw xcl xfm xnm xk xa xcp xfi xse xsp xin xva : Nat → Int32} {r c : Nat} (hr : r < 6) (hc : c < 6) (p : ∀ A, sf_blk (36 * c) 36 (fun i => xnm (36 * r + i)) xcp A → post (xP, xD, nI c, xrk, xrw, xcl, xfm, xnm, xk, xa, A, xfi, xse, xsp, xin, xva)) : wpX_copyRegister post (xP, xD, nI c, xrk, xrw, xcl, xfm, xnm, xk, xa, xcp, xfi, xse, xsp, xin, xva) (nI r) := by
  unfold wpX_copyRegister
  dsimp only
  refine pk_loop (fun n i (A : Nat → Int32) => wX_copyRegister_2 post (nI r) xP xD (nI c) n (nI i) xrk xrw xcl xfm xnm xk xa A xfi xse xsp xin xva) (fun i A => sf_blk (36 * c) i (fun i => xnm (36 * r + i)) xcp A) 36 0 xcp (by omega) (sf_blk_0 _ _ _) (fun n A hA => br_t (nI_le (a := 36) (b := 36) (by omega) (by decide)) (p A hA)) (fun n i A hi hA k => br_f (nI_ge (b := 36) hi (by decide)) ?_)
  have e1 : nI r * 36 + nI i = nI (36 * r + i) := sf_xp r i
  have e2 : nI c * 36 + nI i = nI (36 * c + i) := sf_xp c i
  refine ⟨by rw [e1]; exact vp_in_nI (by omega) (by decide), by rw [e2]; exact vp_in_nI (by omega) (by decide), nm_r (e' := upd A (36 * c + i) (xnm (36 * r + i))) (by rw [e1, e2, nI_clamp (by omega), nI_clamp (by omega)]) (nm_r (nI_1 i) (k _ (sf_blk_s hA rfl)))⟩
/-- indices that fit a rank -/
def sf_ix (k : Nat) (p q : Int32) : Prop := (k = 0 ∧ p = -1 ∧ q = -1) ∨ (k = 1 ∧ (∃ a : Nat, a < 3 ∧ p = nI a) ∧ q = -1) ∨ (k = 2 ∧ ∃ a b : Nat, a < 3 ∧ b < 3 ∧ a ≠ b ∧ p = nI a ∧ q = nI b)
theorem sf_m1n {a : Nat} (h : a < 3) : ¬ nI a = -1 := by
  have H : ∀ a, a < 3 → ¬ nI a = -1 := by decide
  exact H a h
theorem sx_ix_t {post : Int32 → Prop} {k : Nat} {p q : Int32} (h : sf_ix k p q) (P : post 1) : wpX_areIndicesOfRank post (nI k) p q := by
  rcases h with ⟨rfl, rfl, rfl⟩ | ⟨rfl, ⟨a, ha, rfl⟩, rfl⟩ | ⟨rfl, a, b, ha, hb, hab, rfl, rfl⟩
  · exact br_t rfl (br_t rfl (br_t rfl P))
  · exact br_f (by decide) (br_f (nI_pos (by omega)) (br_t (nI_lt (b := 3) ha (by decide)) (br_t rfl (br_t rfl P))))
  · exact br_f (by decide) (br_f (nI_pos (by omega)) (br_t (nI_lt (b := 3) ha (by decide)) (br_f (by decide) (br_f (nI_pos (by omega)) (br_f (nI_ge (b := 3) hb (by decide)) (br_f (fun y => hab ((nI_eq (by omega) (by omega)).mp y)) P))))))
theorem sx_ix_f {post : Int32 → Prop} {k : Nat} {p q : Int32} (hk : k ≤ 2) (h : ¬ sf_ix k p q) (P : post 0) : wpX_areIndicesOfRank post (nI k) p q := by
  have i3 : ∀ {x : Int32}, ¬ x < 0 → x < 3 → ∃ a : Nat, a < 3 ∧ x = nI a := by
    intro x h0 h3
    obtain ⟨a, ha, rfl⟩ := nI_of h0
    exact ⟨a, (nI_ltI (b := 3) ha (by decide)).mp h3, rfl⟩
  match k, hk, h with
  | 0, _, h => exact br_t rfl (br_c (fun z1 => br_c (fun z2 => absurd (Or.inl ⟨rfl, z1, z2⟩) h) (fun _ => P)) (fun _ => P))
  | 1, _, h => exact br_f (by decide) (br_c (fun _ => P) (fun z1 => br_c (fun z2 => br_t rfl (br_c (fun z3 => absurd (Or.inr (Or.inl ⟨rfl, i3 z1 z2, z3⟩)) h) (fun _ => P))) (fun _ => P)))
  | 2, _, h =>
    refine br_f (by decide) (br_c (fun _ => P) (fun z1 => br_c (fun z2 => br_f (by decide) (br_c (fun _ => P) (fun z3 => br_c (fun _ => P) (fun z4 => br_c (fun _ => P) (fun z5 => absurd ?_ h))))) (fun _ => P)))
    obtain ⟨a, ha, rfl⟩ := i3 z1 z2
    obtain ⟨b, hb, rfl⟩ := i3 z3 (Int32.not_le.mp z4)
    exact Or.inr (Or.inr ⟨rfl, a, b, ha, hb, fun y => z5 (by rw [y]), rfl, rfl⟩)
theorem sy_idx_t {post : Int32 → Prop} {v : SY} {p : Int32} (h : sf_id p) (P : post 1) : wpY_isIndex post v p := by
  obtain ⟨yP, yA, yD, yrk, yrw, ywi, yfm, yce, ykd, ynu, ysz, yva, yfi, yse, yat, ysp⟩ := v
  rcases h with rfl | ⟨a, ha, rfl⟩
  · exact br_f (by decide) (br_f (by decide) P)
  · have H : ∀ a, a < 3 → ¬ nI a < -1 := by decide
    exact br_f (H a ha) (br_f (nI_nlt (a := 2) (by omega) (by omega)) P)
theorem sy_idx_f {post : Int32 → Prop} {v : SY} {p : Int32} (h : ¬ sf_id p) (P : post 0) : wpY_isIndex post v p := by
  obtain ⟨yP, yA, yD, yrk, yrw, ywi, yfm, yce, ykd, ynu, ysz, yva, yfi, yse, yat, ysp⟩ := v
  refine br_c (fun _ => P) (fun z1 => br_c (fun _ => P) (fun z2 => absurd ?_ h))
  by_cases h0 : p < 0
  · left
    rw [Int32.lt_iff_toInt_lt] at z1 h0
    apply Int32.toInt_inj.mp
    have e1 : (-1 : Int32).toInt = -1 := by decide
    have e0 : (0 : Int32).toInt = 0 := by decide
    omega
  · right
    obtain ⟨a, ha, rfl⟩ := nI_of h0
    exact ⟨a, by
      have : ¬ 2 < a := fun y => z2 (nI_lt (a := 2) y ha)
      omega, rfl⟩
theorem sf_ix_id {k : Nat} {p q : Int32} (h : sf_ix k p q) : sf_id p ∧ sf_id q ∧ (p = q → p = -1) := by
  rcases h with ⟨rfl, rfl, rfl⟩ | ⟨rfl, ⟨a, ha, rfl⟩, rfl⟩ | ⟨rfl, a, b, ha, hb, hab, rfl, rfl⟩
  · exact ⟨Or.inl rfl, Or.inl rfl, fun _ => rfl⟩
  · exact ⟨Or.inr ⟨a, ha, rfl⟩, Or.inl rfl, fun e => e⟩
  · exact ⟨Or.inr ⟨a, ha, rfl⟩, Or.inr ⟨b, hb, rfl⟩, fun e => absurd ((nI_eq (by omega) (by omega)).mp e) hab⟩
theorem sy_array_gen {post : Int32 → SY → Prop} {yP yA yD : Int32} {yrk yrw ywi yfm yce ykd ynu ysz yva yfi yse yat ysp : Nat → Int32} {r k : Nat} {p q : Int32} (hr : r < 6) (hk : k ≤ 2) (e : yrk r = nI k) (bad : ¬ sf_ix k p q → post (-1000000001) (yP, yA, yD, yrk, yrw, ywi, yfm, yce, ykd, ynu, ysz, yva, yfi, yse, yat, ysp)) (good : sf_ix k p q → wY_array_89 post (nI r) p q yP yA yD yrk yrw ywi yfm yce ykd ynu ysz yva yfi yse yat ysp) : wpY_array post (yP, yA, yD, yrk, yrw, ywi, yfm, yce, ykd, ynu, ysz, yva, yfi, yse, yat, ysp) (nI r) p q := by
  have hv : vp_in (nI r) 13 := vp_in_nI (by omega) (by decide)
  have ec : (nI r).toNatClampNeg = r := nI_clamp (by omega)
  unfold wpY_array
  dsimp only
  by_cases hp : sf_id p
  · by_cases hq : sf_id q
    · rw [ec, e]
      refine sy_reg_t hr (br_f (by decide) (sy_idx_t hp (br_f (by decide) (sy_idx_t hq (br_f (by decide) ⟨hv, ?_⟩)))))
      have m1 : (-1 : Int32) < 0 := by decide
      match k, hk, e, bad, good with
      | 0, _, e, bad, good =>
        rcases hp with rfl | ⟨a, ha, rfl⟩
        · refine br_t (by decide) (br_t m1 (br_t rfl ⟨hv, ?_⟩))
          rw [ec, e]
          refine br_t (by decide) ?_
          rcases hq with rfl | ⟨b, hb, rfl⟩
          · exact br_t m1 (br_t rfl (br_t rfl (br_t m1 (good (Or.inl ⟨rfl, rfl, rfl⟩)))))
          · refine br_f (nI_pos (by omega)) (br_f (by decide) (bad ?_))
            rintro (⟨_, _, z⟩ | ⟨z, _⟩ | ⟨z, _⟩)
            · exact sf_m1n hb z
            · omega
            · omega
        · refine br_t (by decide) (br_f (nI_pos (by omega)) (br_f (by decide) (bad ?_)))
          rintro (⟨_, z, _⟩ | ⟨z, _⟩ | ⟨z, _⟩)
          · exact sf_m1n ha z
          · omega
          · omega
      | 1, _, e, bad, good =>
        rcases hp with rfl | ⟨a, ha, rfl⟩
        · refine br_f (by decide) (br_t m1 (br_f (by decide) (bad ?_)))
          rintro (⟨z, _⟩ | ⟨_, ⟨a, ha, z⟩, _⟩ | ⟨z, _⟩)
          · omega
          · exact sf_m1n ha z.symm
          · omega
        · refine br_f (by decide) (br_f (nI_pos (by omega)) (br_t rfl ⟨hv, ?_⟩))
          rw [ec, e]
          refine br_t (by decide) ?_
          rcases hq with rfl | ⟨b, hb, rfl⟩
          · exact br_t m1 (br_t rfl (br_f (sf_m1n ha) (good (Or.inr (Or.inl ⟨rfl, ⟨a, ha, rfl⟩, rfl⟩)))))
          · refine br_f (nI_pos (by omega)) (br_f (by decide) (bad ?_))
            rintro (⟨z, _⟩ | ⟨_, _, z⟩ | ⟨z, _⟩)
            · omega
            · exact sf_m1n hb z
            · omega
      | 2, _, e, bad, good =>
        rcases hp with rfl | ⟨a, ha, rfl⟩
        · refine br_f (by decide) (br_t m1 (br_f (by decide) (bad ?_)))
          rintro (⟨z, _⟩ | ⟨z, _⟩ | ⟨_, a, b, ha, _, _, z, _⟩)
          · omega
          · omega
          · exact sf_m1n ha z.symm
        · refine br_f (by decide) (br_f (nI_pos (by omega)) (br_t rfl ⟨hv, ?_⟩))
          rw [ec, e]
          refine br_f (by decide) ?_
          rcases hq with rfl | ⟨b, hb, rfl⟩
          · refine br_t m1 (br_f (by decide) (bad ?_))
            rintro (⟨z, _⟩ | ⟨z, _⟩ | ⟨_, a, b, _, hb, _, _, z⟩)
            · omega
            · omega
            · exact sf_m1n hb z.symm
          · refine br_f (nI_pos (by omega)) (br_t rfl (br_c (fun z => br_f (nI_pos (by omega)) (bad ?_)) (fun z => good (Or.inr (Or.inr ⟨rfl, a, b, ha, hb, fun y => z (by rw [y]), rfl, rfl⟩)))))
            rintro (⟨y, _⟩ | ⟨y, _⟩ | ⟨_, a', b', ha', hb', hab, y1, y2⟩)
            · omega
            · omega
            · rw [y1, y2] at z
              exact hab ((nI_eq (by omega) (by omega)).mp z)
    · exact sy_reg_t hr (br_f (by decide) (sy_idx_t hp (br_f (by decide) (sy_idx_f hq (br_t rfl (bad (fun z => hq (sf_ix_id z).2.1)))))))
  · exact sy_reg_t hr (br_f (by decide) (sy_idx_f hp (br_t rfl (bad (fun z => hp (sf_ix_id z).1)))))
end
section
/-- the new formula's lengths -/
def sf_asp (d : Nat) (p q a b : Int32) (xsp B : Nat → Int32) : Prop := (∀ t, t < 3 → B (3 * d + t) = (if p = nI t then a else if q = nI t then b else 0)) ∧ ∀ k, (k < 3 * d ∨ 3 * d + 3 ≤ k) → B k = xsp k
theorem sf_asp_0 {d : Nat} {a b : Int32} {xsp A : Nat → Int32} (hA : sf_blk (3 * d) 3 (fun _ => 0) xsp A) : sf_asp d (-1) (-1) a b xsp A := by
  refine ⟨fun t ht => ?_, hA.2⟩
  rw [if_neg (fun y => sf_m1n ht y.symm), if_neg (fun y => sf_m1n ht y.symm)]
  exact hA.1 t ht
theorem sf_asp_1 {d e : Nat} {a b : Int32} {xsp A : Nat → Int32} (hA : sf_blk (3 * d) 3 (fun _ => 0) xsp A) (he : e < 3) : sf_asp d (nI e) (-1) a b xsp (upd A (3 * d + e) a) := by
  refine ⟨fun t ht => ?_, fun k hk => by rw [pk_un (by omega)]; exact hA.2 k hk⟩
  by_cases z : t = e
  · rw [z, pk_us, if_pos rfl]
  · rw [pk_un (by omega), if_neg (fun y => z ((nI_eq (by omega) (by omega)).mp y).symm), if_neg (fun y => sf_m1n ht y.symm)]
    exact hA.1 t ht
theorem sf_asp_2 {d e f : Nat} {a b : Int32} {xsp A : Nat → Int32} (hA : sf_blk (3 * d) 3 (fun _ => 0) xsp A) (he : e < 3) (hf : f < 3) (hef : e ≠ f) : sf_asp d (nI e) (nI f) a b xsp (upd (upd A (3 * d + e) a) (3 * d + f) b) := by
  refine ⟨fun t ht => ?_, fun k hk => by rw [pk_un (by omega), pk_un (by omega)]; exact hA.2 k hk⟩
  by_cases z : t = f
  · rw [z, pk_us, if_neg (fun y => hef ((nI_eq (by omega) (by omega)).mp y)), if_pos rfl]
  · rw [pk_un (by omega)]
    by_cases z2 : t = e
    · rw [z2, pk_us, if_pos rfl]
    · rw [pk_un (by omega), if_neg (fun y => z2 ((nI_eq (by omega) (by omega)).mp y).symm), if_neg (fun y => z ((nI_eq (by omega) (by omega)).mp y).symm)]
      exact hA.1 t ht
theorem sf_Regs_y {xrk xrw xcl xfm xnm yrk yrw ywi yfm yce yrk' yrw' ywi' yfm' yce' : Nat → Int32} (G : sf_Regs xrk xrw xcl xfm xnm yrk yrw ywi yfm yce) (h : ∀ s, s < 6 → yrk' s = yrk s ∧ yrw' s = yrw s ∧ ywi' s = ywi s ∧ yfm' s = yfm s) (hc : ∀ k, k < 216 → yce' k = yce k) : sf_Regs xrk xrw xcl xfm xnm yrk' yrw' ywi' yfm' yce' := by
  obtain ⟨G1, G2, G3⟩ := G
  refine ⟨fun s hs => ?_, fun k hk => by rw [hc k hk]; exact G2 k hk, fun s hs => ?_⟩
  · obtain ⟨q1, q2, q3, q4⟩ := h s hs
    rw [q1, q2, q3, q4]
    exact G1 s hs
  · obtain ⟨q1, q2, q3, q4⟩ := h s hs
    obtain ⟨k', h', w', f', p1, p2, p3, p4, p5, p6⟩ := G3 s hs
    refine ⟨k', h', w', f', by rw [q1, p1], by rw [q2, p2], by rw [q3, p3], by rw [q4, p4], p5, fun i j hi hj hz => ?_⟩
    show yce' (36 * s + (6 * i + j)) = 0
    rw [hc _ (by omega)]
    exact p6 i j hi hj hz
theorem i_vc_array {k : Nat} {u : SX} {v : SY} (I : i_Rel k u v) (hk : k + 5 ≤ 2560) (v1 : Int32) (v2 : Int32) (v3 : Int32) : wpX_array (fun r u' => wpY_array (fun r' v' => r' = r ∧ i_Rel (k + 5) u' v') v v1 v2 v3) u v1 v2 v3 := by
  obtain ⟨xP, xD, xC, xrk, xrw, xcl, xfm, xnm, xk, xa, xcp, xfi, xse, xsp, xin, xva⟩ := u
  obtain ⟨yP, yA, yD, yrk, yrw, ywi, yfm, yce, ykd, ynu, ysz, yva, yfi, yse, yat, ysp⟩ := v
  have I0 := I
  obtain ⟨n, c, d, ⟨rfl, rfl, rfl, rfl, rfl, rfl⟩, G, F⟩ := I
  have F' := F
  obtain ⟨f1, f2, f3, f4, f5, f6, f7⟩ := F
  unfold wpX_array
  dsimp only
  by_cases hr : sf_rg v1
  · obtain ⟨r, hr, rfl⟩ := hr
    obtain ⟨q, h, w, f, a1, a2, a3, a4, p1, p2, p3, p4, S, O, O2⟩ := sf_reg G hr
    have hx : vp_in (nI r) 6 := vp_in_nI hr (by decide)
    have ec : (nI r).toNatClampNeg = r := nI_clamp (by omega)
    have hq2 := sf_Sh_k S
    rw [ec, a1]
    by_cases hix : sf_ix q v2 v3
    · have hid := sf_ix_id hix
      by_cases hn : n = 20
      · refine sx_reg_t hr (br_f (by decide) ⟨hx, sx_ix_t hix (br_f (by decide) (br_t (nI_le (a := 20) (by omega) (by omega)) ?_))⟩)
        exact sy_array_gen hr hq2 p1 (fun z => absurd hix z) (fun _ => br_t (by rw [hn]; rfl) ⟨rfl, I0⟩)
      have hn' : ¬ nI n = 20 := fun y => hn ((nI_eq (b := 20) (by omega) (by decide)).mp y)
      have hn2 : ¬ 20 ≤ nI n := nI_ge (b := 20) (by omega) (by decide)
      by_cases hc : c = 6
      · refine sx_reg_t hr (br_f (by decide) ⟨hx, sx_ix_t hix (br_f (by decide) (br_f hn2 (br_t (nI_le (a := 6) (by omega) (by omega)) ?_)))⟩)
        exact sy_array_gen hr hq2 p1 (fun z => absurd hix z) (fun _ => br_f hn' (br_t (by rw [hc]; rfl) ⟨rfl, I0⟩))
      have hc' : ¬ nI c = 6 := fun y => hc ((nI_eq (b := 6) (by omega) (by decide)).mp y)
      have hc2 : ¬ 6 ≤ nI c := nI_ge (b := 6) (by omega) (by decide)
      by_cases hd : d = 6
      · refine sx_reg_t hr (br_f (by decide) ⟨hx, sx_ix_t hix (br_f (by decide) (br_f hn2 (br_f hc2 (br_f (nI_nlt (b := 6) (by omega) (by omega)) ?_))))⟩)
        exact sy_array_gen hr hq2 p1 (fun z => absurd hix z) (fun _ => br_f hn' (br_f hc' (br_t (by rw [hd]; rfl) ⟨rfl, I0⟩)))
      have hd' : ¬ nI d = 6 := fun y => hd ((nI_eq (b := 6) (by omega) (by decide)).mp y)
      have hd2 : nI d < 6 := nI_lt (b := 6) (by omega) (by decide)
      have vc : vp_in (nI c) 6 := vp_in_nI (by omega) (by decide)
      have cc : (nI c).toNatClampNeg = c := nI_clamp (by omega)
      have dd : nI (d + 1) - 1 = nI d := pk_sub (a := d + 1) (b := 1) (by omega)
      have YT : ∀ (A B : Nat → Int32), sf_blk (36 * c) 36 (fun i => xnm (36 * r + i)) xcp A → sf_asp d v2 v3 (nI h) (nI w) xsp B → wpY_array (fun r' v' => r' = nI (d + 1) ∧ i_Rel (k + 5) (nI (n + 1), nI (d + 1), nI (c + 1), xrk, xrw, xcl, xfm, xnm, upd xk n 4, upd xa n (nI c), A, upd xfi c v2, upd xse c v3, B, xin, xva) v') (nI n, nI c, nI d, yrk, yrw, ywi, yfm, yce, ykd, ynu, ysz, yva, yfi, yse, yat, ysp) (nI r) v2 v3 := by
        intro A B hA hB
        refine sy_array_gen hr hq2 p1 (fun z => absurd hix z) (fun _ => br_f hn' (br_f hc' (br_f hd' ?_)))
        have e6 : (6 : Int32) + nI c = nI (6 + c) := nI_add 6 c
        have c6 : (nI (6 + c)).toNatClampNeg = 6 + c := nI_clamp (by omega)
        have v6 : vp_in (nI (6 + c)) 13 := vp_in_nI (by omega) (by decide)
        rw [e6]
        refine sy_copy (by omega) (by omega) (by omega) (fun C hC => ?_)
        dsimp only
        rw [e6, c6, nI_1]
        refine ⟨v6, nm_e ⟨v6, nm_e (nm_e ?_)⟩⟩
        rw [show (5 : Int32) + nI (c + 1) = nI (6 + c) from (nI_add 5 (c + 1)).trans (congrArg nI (by omega))]
        refine ⟨0 + 1, sy_addE (s := nI 1) (t := 0) (by omega) f3 (by omega) (by omega) ⟨rfl, ?_⟩⟩
        dsimp only
        have eE : sf_E ykd n (d - 0) = n := by rw [Nat.sub_zero, ← f4]; exact sf_E_top ykd n
        have n6 : ∀ {a : Nat}, a < c → 6 + a ≠ 6 + c := fun h => by omega
        refine sf_mk (sf_Regs_y G (fun s hs => ⟨pk_un (by omega), pk_un (by omega), pk_un (by omega), pk_un (by omega)⟩) (fun j hj => hC.2 j (by omega))) (sf_push (t := 0) F' (by omega) (Nat.le_succ c) (by omega) (by rw [pk_us]; rfl) (by omega) (by omega) (fun j hj => pk_un (by omega)) (fun j hj => pk_un (by omega)) (fun j hj => pk_un (by omega)) (fun j hj => pk_un (by omega)) (fun j hj => pk_un (by omega)) ?_ (Or.inr (Or.inl ⟨pk_us, pk_us, c, by omega, pk_us, pk_us⟩)) (fun a ha => ?_) (fun a ha => ⟨pk_un (n6 ha), pk_un (n6 ha), pk_un (n6 ha), pk_un (n6 ha)⟩) (fun k p hk hp => hB.2 _ (by omega)) (fun p hp => ?_))
        · rw [pk_us, eE]
          exact congrArg nI (by omega)
        · by_cases z : a = c
          · subst z
            rw [pk_us, pk_us, pk_us, pk_us, pk_us, pk_us, p2, p3]
            refine ⟨fun i hi => ?_, rfl, rfl, hid.1, hid.2.1, hid.2.2, ⟨h, S.1, S.2.1, rfl⟩, ⟨w, S.2.2.1, S.2.2.2.1, rfl⟩⟩
            have t1 : A (36 * a + i) = xnm (36 * r + i) := hA.1 i hi
            have t2 : C (36 * (6 + a) + i) = yce (36 * r + i) := hC.1 i hi
            rw [show 36 * (6 + a) + i = 216 + 36 * a + i by omega] at t2
            rw [t1, t2]
            exact G.2.1 _ (by omega)
          · obtain ⟨b1, b2, b3, b4, b5, b6, b7, b8⟩ := f6 a (by omega)
            have z' : 6 + a ≠ 6 + c := by omega
            rw [pk_un z, pk_un z, pk_un z', pk_un z', pk_un z', pk_un z']
            refine ⟨fun i hi => ?_, b2, b3, b4, b5, b6, b7, b8⟩
            rw [hA.2 _ (by omega), hC.2 _ (by omega)]
            exact b1 i hi
        · rw [eE, Nat.sub_self, sf_fs_0, sf_cs_0l, Nat.sub_zero, hB.1 p hp]
          unfold sf_cb
          rw [pk_us, pk_us, if_pos rfl, c6, pk_us, pk_us, pk_us, pk_us, p2, p3]
      refine sx_reg_t hr (br_f (by decide) ⟨hx, sx_ix_t hix (br_f (by decide) (br_f hn2 (br_f hc2 (br_t hd2 (sx_copyReg hr (by omega) (fun A hA => ?_))))))⟩)
      dsimp only
      rw [cc]
      refine ⟨vc, nm_e ⟨vc, nm_e (sx_addPart (by omega) ?_)⟩⟩
      dsimp only
      rw [nI_1]
      refine nm_e (sx_pushW (by omega) (fun B hB => ?_))
      dsimp only
      rw [a2, dd]
      rcases hix with ⟨rfl, rfl, rfl⟩ | ⟨rfl, ⟨a, ha, rfl⟩, rfl⟩ | ⟨rfl, a, b, ha, hb, hab, rfl, rfl⟩
      · exact br_t rfl (br_t rfl (YT A B hA (sf_asp_0 hB)))
      · refine br_f (sf_m1n ha) ⟨hx, ?_⟩
        rw [sf_3a, nI_clamp (by omega)]
        exact ⟨vp_in_nI (by omega) (by decide), nm_e (br_t rfl (YT A _ hA (sf_asp_1 hB ha)))⟩
      · refine br_f (sf_m1n ha) ⟨hx, ?_⟩
        rw [sf_3a, nI_clamp (by omega)]
        refine ⟨vp_in_nI (by omega) (by decide), nm_e (br_f (sf_m1n hb) ⟨hx, ?_⟩)⟩
        rw [dd, sf_3a, nI_clamp (by omega), ec, a3]
        exact ⟨vp_in_nI (by omega) (by decide), nm_e (YT A _ hA (sf_asp_2 hB ha hb hab))⟩
    · refine sx_reg_t hr (br_f (by decide) ⟨hx, sx_ix_f hq2 hix (br_t rfl ?_)⟩)
      exact sy_array_gen hr hq2 p1 (fun _ => ⟨rfl, I0⟩) (fun z => absurd z hix)
  · refine sx_reg_f hr (br_t rfl ?_)
    unfold wpY_array
    dsimp only
    exact sy_reg_f hr (br_t rfl ⟨rfl, I0⟩)
end
section
theorem sy_note_n {post : SY → Prop} {yP yA yD : Int32} {yrk yrw ywi yfm yce ykd ynu ysz yva yfi yse yat ysp : Nat → Int32} {x : Int32} (P : post (yP, yA, yD, yrk, yrw, ywi, yfm, yce, ykd, ynu, ysz, yva, yfi, yse, yat, ysp)) : wpY_noteSpan post (yP, yA, yD, yrk, yrw, ywi, yfm, yce, ykd, ynu, ysz, yva, yfi, yse, yat, ysp) (-1) x := br_t (by decide) P
theorem sy_note_p {post : SY → Prop} {yP yA yD : Int32} {yrk yrw ywi yfm yce ykd ynu ysz yva yfi yse yat ysp : Nat → Int32} {p : Nat} {x : Int32} (hp : p < 3) (hx : ¬ x = 0) (P : post (yP, yA, yD, yrk, yrw, ywi, yfm, yce, ykd, ynu, ysz, yva, yfi, yse, yat, upd ysp p (sf_cs (ysp p) x))) : wpY_noteSpan post (yP, yA, yD, yrk, yrw, ywi, yfm, yce, ykd, ynu, ysz, yva, yfi, yse, yat, ysp) (nI p) x := by
  have hv : vp_in (nI p) 3 := vp_in_nI hp (by decide)
  have ec : (nI p).toNatClampNeg = p := nI_clamp (by omega)
  unfold wpY_noteSpan
  dsimp only
  rw [ec]
  unfold sf_cs at P
  refine br_f (nI_pos (by omega)) ⟨hv, br_c (fun z => ⟨hv, nm_e ?_⟩) (fun z => ⟨hv, br_c (fun z2 => ⟨hv, nm_e ?_⟩) (fun z2 => ⟨hv, nm_e ?_⟩)⟩)⟩
  · rw [if_pos (Or.inl z)] at P; exact P
  · rw [if_pos (Or.inr z2)] at P; exact P
  · rw [if_neg (fun y => y.elim z z2), if_neg hx] at P; exact P
theorem sf_ln_ne {x : Int32} (h : sf_ln x) : ¬ x = 0 := by
  obtain ⟨k, h1, h2, rfl⟩ := h
  exact nI_ne0 (by omega) (by omega)
/-- two notes -/
theorem sy_notes {post : SY → Prop} {yP yA yD : Int32} {yrk yrw ywi yfm yce ykd ynu ysz yva yfi yse yat ysp : Nat → Int32} {fi se ro wi : Int32} (hf : sf_id fi) (hs : sf_id se) (hne : fi = se → fi = -1) (hro : sf_ln ro) (hwi : sf_ln wi) (Q : SY → Prop) (hQ : ∀ B, wpY_noteSpan post (yP, yA, yD, yrk, yrw, ywi, yfm, yce, ykd, ynu, ysz, yva, yfi, yse, yat, B) se wi → Q (yP, yA, yD, yrk, yrw, ywi, yfm, yce, ykd, ynu, ysz, yva, yfi, yse, yat, B)) (P : ∀ B, (∀ p, p < 3 → B p = sf_cs (ysp p) (if fi = nI p then ro else if se = nI p then wi else 0)) → post (yP, yA, yD, yrk, yrw, ywi, yfm, yce, ykd, ynu, ysz, yva, yfi, yse, yat, B)) : wpY_noteSpan Q (yP, yA, yD, yrk, yrw, ywi, yfm, yce, ykd, ynu, ysz, yva, yfi, yse, yat, ysp) fi ro := by
  have r0 := sf_ln_ne hro
  have w0 := sf_ln_ne hwi
  rcases hf with rfl | ⟨a, ha, rfl⟩
  · refine sy_note_n (hQ ysp ?_)
    rcases hs with rfl | ⟨b, hb, rfl⟩
    · refine sy_note_n (P ysp (fun p hp => ?_))
      rw [if_neg (fun y => sf_m1n hp y.symm), if_neg (fun y => sf_m1n hp y.symm), sf_cs_0r]
    · refine sy_note_p hb w0 (P _ (fun p hp => ?_))
      rw [if_neg (fun y => sf_m1n hp y.symm)]
      by_cases z : p = b
      · rw [z, pk_us, if_pos rfl]
      · rw [pk_un z, if_neg (fun y => z ((nI_eq (by omega) (by omega)).mp y).symm), sf_cs_0r]
  · refine sy_note_p ha r0 (hQ _ ?_)
    rcases hs with rfl | ⟨b, hb, rfl⟩
    · refine sy_note_n (P _ (fun p hp => ?_))
      by_cases z : p = a
      · rw [z, pk_us, if_pos rfl]
      · rw [pk_un z, if_neg (fun y => z ((nI_eq (by omega) (by omega)).mp y).symm), if_neg (fun y => sf_m1n hp y.symm), sf_cs_0r]
    · have hab : a ≠ b := fun y => sf_m1n ha (hne (by rw [y]))
      refine sy_note_p hb w0 (P _ (fun p hp => ?_))
      by_cases z : p = b
      · rw [z, pk_us, pk_un (fun y => hab y.symm), if_neg (fun y => hab ((nI_eq (by omega) (by omega)).mp y)), if_pos rfl]
      · rw [pk_un z]
        by_cases z2 : p = a
        · rw [z2, pk_us, if_pos rfl]
        · rw [pk_un z2, if_neg (fun y => z2 ((nI_eq (by omega) (by omega)).mp y).symm), if_neg (fun y => z ((nI_eq (by omega) (by omega)).mp y).symm), sf_cs_0r]
theorem sy_find50 {post : SY → Prop} {yA yD : Int32} {yrk yrw ywi yfm yce ykd ynu ysz yva yfi yse yat : Nat → Int32} {n c lo : Nat} {xk xa xcp xfi xse A : Nat → Int32} (hn : n ≤ 20) (hc : c ≤ 6) (hl : lo ≤ n) (hp : ∀ i, i < n → sf_Pt c xk xa ykd ynu ysz i) (hs : sf_Cps c xcp xfi xse yce yfi yse yrw ywi) (hA : ∀ p, p < 3 → A p = 0) (P : ∀ B, (∀ p, p < 3 → B p = sf_fs (sf_cb ykd ynu yfi yse yrw ywi p) lo (n - lo)) → post (nI n, yA, yD, yrk, yrw, ywi, yfm, yce, ykd, ynu, ysz, yva, yfi, yse, yat, B)) : ∃ m, wY_findSpans_50 post m (nI lo) (nI n) yA yD yrk yrw ywi yfm yce ykd ynu ysz yva yfi yse yat A := by
  refine pk_loop (fun m i (B : Nat → Int32) => wY_findSpans_50 post m (nI i) (nI n) yA yD yrk yrw ywi yfm yce ykd ynu ysz yva yfi yse yat B) (fun i B => lo ≤ i ∧ ∀ p, p < 3 → B p = sf_fs (sf_cb ykd ynu yfi yse yrw ywi p) lo (i - lo)) n lo A hl ⟨Nat.le_refl lo, fun p hp => by rw [Nat.sub_self]; exact hA p hp⟩ (fun m B hB => br_t (nI_le (by omega) (by omega)) (P B hB.2)) (fun m i B hi hB k => br_f (nI_ge hi (by omega)) ?_)
  obtain ⟨hli, hB⟩ := hB
  have vi : vp_in (nI i) 20 := vp_in_nI (by omega) (by decide)
  have ci : (nI i).toNatClampNeg = i := nI_clamp (by omega)
  have step : ∀ p, sf_fs (sf_cb ykd ynu yfi yse yrw ywi p) lo (i + 1 - lo) = sf_cs (sf_fs (sf_cb ykd ynu yfi yse yrw ywi p) lo (i - lo)) (sf_cb ykd ynu yfi yse yrw ywi p i) := by
    intro p
    rw [show i + 1 - lo = (i - lo) + 1 by omega, sf_fs_s, show lo + (i - lo) = i by omega]
  rw [ci]
  refine ⟨vi, br_c (fun z => ?_) (fun z => nm_r (nI_1 i) (k B ⟨by omega, fun p hp => ?_⟩))⟩
  · obtain ⟨_, a, ha, _, e2⟩ := sf_Pt_a (hp i hi) z
    obtain ⟨b1, b2, b3, b4, b5, b6, b7, b8⟩ := hs a ha
    have e3 : (nI (6 + a)).toNatClampNeg = 6 + a := nI_clamp (by omega)
    have va : vp_in (nI (6 + a)) 13 := vp_in_nI (by omega) (by decide)
    rw [e2, e3]
    refine ⟨vi, va, vi, va, ?_⟩
    refine sy_notes (post := fun u => ∀ x : Int32, x = nI i + 1 → wY_findSpans_50 post m x u.1 u.2.1 u.2.2.1 u.2.2.2.1 u.2.2.2.2.1 u.2.2.2.2.2.1 u.2.2.2.2.2.2.1 u.2.2.2.2.2.2.2.1 u.2.2.2.2.2.2.2.2.1 u.2.2.2.2.2.2.2.2.2.1 u.2.2.2.2.2.2.2.2.2.2.1 u.2.2.2.2.2.2.2.2.2.2.2.1 u.2.2.2.2.2.2.2.2.2.2.2.2.1 u.2.2.2.2.2.2.2.2.2.2.2.2.2.1 u.2.2.2.2.2.2.2.2.2.2.2.2.2.2.1 u.2.2.2.2.2.2.2.2.2.2.2.2.2.2.2) b4 b5 b6 b7 b8 _ (fun C hC => ?_) (fun C hC => nm_r (nI_1 i) (k C ⟨by omega, fun p hp => ?_⟩))
    · dsimp only
      rw [e2, e3]
      exact ⟨vi, va, vi, va, hC⟩
    · rw [hC p hp, step, hB p hp]
      unfold sf_cb
      rw [if_pos z, e2, e3]
  · rw [hB p hp, step, sf_cb_no z, sf_cs_0r]
end
section
theorem sy_find {post : SY → Prop} {yA yD : Int32} {yrk yrw ywi yfm yce ykd ynu ysz yva yfi yse yat ysp : Nat → Int32} {n c d : Nat} {xk xa xcp xfi xse xsp : Nat → Int32} (F : sf_Form n c d xk xa xcp xfi xse xsp yce ykd ynu ysz yfi yse yrw ywi) (P : ∀ B, (∀ p, p < 3 → B p = (if d = 0 then 0 else xsp (3 * (d - 1) + p))) → post (nI n, yA, yD, yrk, yrw, ywi, yfm, yce, ykd, ynu, ysz, yva, yfi, yse, yat, B)) : wpY_findSpans post (nI n, yA, yD, yrk, yrw, ywi, yfm, yce, ykd, ynu, ysz, yva, yfi, yse, yat, ysp) := by
  have F' := F
  obtain ⟨f1, f2, f3, f4, f5, f6, f7⟩ := F
  unfold wpY_findSpans
  dsimp only
  refine pk_loop (fun m i (A : Nat → Int32) => wY_findSpans_2 post (nI n) yA yD m (nI i) yrk yrw ywi yfm yce ykd ynu ysz yva yfi yse yat A) (fun i A => ∀ p, p < i → A p = 0) 3 0 ysp (by omega) (fun p h => absurd h (Nat.not_lt_zero p)) (fun m A hA => br_t (nI_le (a := 3) (b := 3) (by omega) (by decide)) ?_) (fun m i A hi hA k => br_f (nI_ge (b := 3) hi (by decide)) ⟨vp_in_nI hi (by decide), nm_r (e' := upd A i 0) (by rw [nI_clamp (by omega)]) (nm_r (nI_1 i) (k _ (fun p hp => ?_)))⟩)
  · by_cases z : n = 0
    · refine br_t (by rw [z]; rfl) (sy_find50 (lo := 0) f1 f2 (by omega) f5 f6 hA (fun B hB => P B (fun p hp => ?_)))
      rw [if_pos ((sf_n0 F').mp z), hB p hp, z]
      rfl
    · have hd : ¬ d = 0 := fun y => z ((sf_n0 F').mpr y)
      obtain ⟨g1, g2, g3⟩ := sf_size1 F' (by omega)
      have e1 : nI n - 1 = nI (n - 1) := pk_sub (b := 1) g1
      refine br_f (nI_ne0 (by omega) (by omega)) ⟨by rw [e1]; exact vp_in_nI (by omega) (by decide), nm_r (e' := nI (sf_E ykd n (d - 1))) ?_ (sy_find50 (lo := sf_E ykd n (d - 1)) f1 f2 (by omega) f5 f6 hA (fun B hB => P B (fun p hp => ?_)))⟩
      · rw [e1, nI_clamp (by omega), g3, pk_sub (by omega)]
        exact congrArg nI (by omega)
      · rw [if_neg hd, hB p hp, sf_top F' (by omega) p hp]
  · by_cases z : p = i
    · rw [z, pk_us]
    · rw [pk_un z]; exact hA p (by omega)
theorem i_vc_span {k : Nat} {u : SX} {v : SY} (I : i_Rel k u v) (hk : k + 5 ≤ 2560) (v1 : Int32) : wpX_span (fun r => wpY_span (fun r' v' => r' = r ∧ i_Rel (k + 5) u v') v v1) u v1 := by
  obtain ⟨xP, xD, xC, xrk, xrw, xcl, xfm, xnm, xk, xa, xcp, xfi, xse, xsp, xin, xva⟩ := u
  obtain ⟨yP, yA, yD, yrk, yrw, ywi, yfm, yce, ykd, ynu, ysz, yva, yfi, yse, yat, ysp⟩ := v
  have I0 := I
  obtain ⟨n, c, d, ⟨rfl, rfl, rfl, rfl, rfl, rfl⟩, G, F⟩ := I
  have F' := F
  obtain ⟨f1, f2, f3, f4, f5, f6, f7⟩ := F
  unfold wpX_span
  dsimp only
  by_cases h1 : v1 < 0
  · exact br_t h1 (br_t h1 ⟨rfl, I0⟩)
  obtain ⟨p, hp, rfl⟩ := nI_of h1
  by_cases h3 : p < 3
  · have h3' : nI p < 3 := nI_lt (b := 3) h3 (by decide)
    have h2' : nI p ≤ 2 := nI_le (b := 2) (by omega) (by decide)
    have vp : vp_in (nI p) 3 := vp_in_nI h3 (by decide)
    have cp : (nI p).toNatClampNeg = p := nI_clamp (by omega)
    by_cases hd : d = 0
    · refine br_f h1 (br_t h3' (br_f (nI_ge (b := 1) (by omega) (by decide)) ?_))
      unfold wpY_span
      dsimp only
      refine br_f h1 (br_t h2' (sy_find F' (fun B hB => ?_)))
      dsimp only
      rw [cp]
      have := hB p h3
      rw [if_pos hd] at this
      exact ⟨vp, br_t this ⟨rfl, sf_mk G F'⟩⟩
    · have e1 : nI d - 1 = nI (d - 1) := pk_sub (b := 1) (by omega)
      rw [e1, sf_3a, nI_clamp (by omega)]
      have YT : ∀ r0 : Int32, (xsp (3 * (d - 1) + p) = 0 → r0 = -1000000004) → (¬ xsp (3 * (d - 1) + p) = 0 → 0 ≤ xsp (3 * (d - 1) + p) → r0 = xsp (3 * (d - 1) + p)) → (¬ 0 ≤ xsp (3 * (d - 1) + p) → r0 = -1000000005) → wpY_span (fun r' v' => r' = r0 ∧ i_Rel (k + 5) (nI n, nI d, nI c, xrk, xrw, xcl, xfm, xnm, xk, xa, xcp, xfi, xse, xsp, xin, xva) v') (nI n, nI c, nI d, yrk, yrw, ywi, yfm, yce, ykd, ynu, ysz, yva, yfi, yse, yat, ysp) (nI p) := by
        intro r0 q1 q2 q3
        unfold wpY_span
        dsimp only
        refine br_f h1 (br_t h2' (sy_find F' (fun B hB => ?_)))
        dsimp only
        have := hB p h3
        rw [if_neg hd] at this
        rw [cp, this]
        exact ⟨vp, br_c (fun z => ⟨(q1 z).symm, sf_mk G F'⟩) (fun z => ⟨vp, br_c (fun z2 => ⟨vp, (q2 z z2).symm, sf_mk G F'⟩) (fun z2 => ⟨(q3 z2).symm, sf_mk G F'⟩)⟩)⟩
      refine br_f h1 (br_t h3' (br_t (nI_le (a := 1) (by omega) (by omega)) ⟨vp_in_nI (by omega) (by decide), nm_e ?_⟩))
      rcases sf_top_ok F' (by omega) p h3 with z | ⟨j, hj, z⟩
      · rw [z] at YT ⊢
        exact br_f (by decide) (br_t rfl (YT _ (fun y => absurd y (by decide)) (fun _ y => absurd y (by decide)) (fun _ => rfl)))
      · rw [z] at YT ⊢
        have j0 : 0 ≤ nI j := nI_pos' (by omega)
        refine br_c (fun y => YT _ (fun _ => rfl) (fun y2 => absurd y y2) (fun y2 => absurd j0 y2)) (fun y => br_f ?_ (YT _ (fun y2 => absurd y2 y) (fun _ _ => rfl) (fun y2 => absurd j0 y2)))
        intro y2
        rw [y2] at j0
        exact absurd j0 (by decide)
  · have h3' : ¬ nI p < 3 := nI_nlt (b := 3) (by omega) (by omega)
    have h2' : ¬ nI p ≤ 2 := nI_ge (a := 2) (by omega) (by omega)
    exact br_f h1 (br_f h3' (br_f h1 (br_f h2' ⟨rfl, I0⟩)))
end
section
theorem sx_place15 {post : Int32 → Prop} {xP xD xC : Int32} {xrk xrw xcl xfm xnm xk xa xcp xfi xse xsp xin xva : Nat → Int32} {q : Int32} {a : Nat} (tt : Nat → Nat) (ht : ∀ t, t < 3 → xin t = nI (tt t)) (hq : sf_id q) (P : post (nI (6 * a + sf_at q tt))) : wX_placeAt_15 post q (nI a) xP xD xC xrk xrw xcl xfm xnm xk xa xcp xfi xse xsp xin xva := by
  rcases hq with rfl | ⟨b, hb, rfl⟩
  · rw [sf_at_n] at P
    refine br_t rfl ?_
    have e : nI a * 6 + 0 = nI (6 * a + 0) := sf_6a a 0
    rw [e]
    exact P
  · rw [sf_at_p tt hb] at P
    refine br_f (sf_m1n hb) ⟨vp_in_nI hb (by decide), nm_r (e' := nI (tt b)) (by rw [nI_clamp (by omega), ht b hb]) ?_⟩
    rw [sf_6a]
    exact P
theorem sx_place {post : Int32 → Prop} {xP xD xC : Int32} {xrk xrw xcl xfm xnm xk xa xcp xfi xse xsp xin xva : Nat → Int32} {p q : Int32} (tt : Nat → Nat) (ht : ∀ t, t < 3 → xin t = nI (tt t)) (hp : sf_id p) (hq : sf_id q) (P : post (nI (6 * sf_at p tt + sf_at q tt))) : wpX_placeAt post (xP, xD, xC, xrk, xrw, xcl, xfm, xnm, xk, xa, xcp, xfi, xse, xsp, xin, xva) p q := by
  rcases hp with rfl | ⟨a, ha, rfl⟩
  · rw [sf_at_n] at P
    exact br_t rfl (sx_place15 (a := 0) tt ht hq P)
  · rw [sf_at_p tt ha] at P
    refine br_f (sf_m1n ha) ⟨vp_in_nI ha (by decide), ?_⟩
    rw [nI_clamp (by omega), ht a ha]
    exact sx_place15 tt ht hq P
theorem sx_copied {post : Int32 → Prop} {xP xD xC : Int32} {xrk xrw xcl xfm xnm xk xa xcp xfi xse xsp xin xva : Nat → Int32} {a : Nat} (tt : Nat → Nat) (ht : ∀ t, t < 3 → xin t = nI (tt t)) (h6 : ∀ t, t < 3 → tt t < 6) (ha : a < 6) (hp : sf_id (xfi a)) (hq : sf_id (xse a)) (P : post (xcp (36 * a + (6 * sf_at (xfi a) tt + sf_at (xse a) tt)))) : wpX_copiedNumber post (xP, xD, xC, xrk, xrw, xcl, xfm, xnm, xk, xa, xcp, xfi, xse, xsp, xin, xva) (nI a) := by
  have va : vp_in (nI a) 6 := vp_in_nI ha (by decide)
  have ca : (nI a).toNatClampNeg = a := nI_clamp (by omega)
  have l1 := sf_at_lt hp h6
  have l2 := sf_at_lt hq h6
  unfold wpX_copiedNumber
  dsimp only
  rw [ca]
  refine ⟨va, va, sx_place tt ht hp hq ?_⟩
  have e : nI a * 36 + nI (6 * sf_at (xfi a) tt + sf_at (xse a) tt) = nI (36 * a + (6 * sf_at (xfi a) tt + sf_at (xse a) tt)) := sf_xp a _
  rw [e, nI_clamp (by omega)]
  exact ⟨vp_in_nI (by omega) (by decide), P⟩
theorem sf_ge0 {p : Int32} (h : sf_id p) : (p = -1 ∧ ¬ 0 ≤ p) ∨ ∃ a : Nat, a < 3 ∧ p = nI a ∧ 0 ≤ p := by
  rcases h with rfl | ⟨a, ha, rfl⟩
  · exact Or.inl ⟨rfl, by decide⟩
  · exact Or.inr ⟨a, ha, rfl, nI_pos' (by omega)⟩
theorem sy_num {post : Int32 → Prop} {yP yA yD : Int32} {yrk yrw ywi yfm yce ykd ynu ysz yva yfi yse yat ysp : Nat → Int32} {a : Nat} (tt : Nat → Nat) (ht : ∀ t, t < 3 → yat t = nI (tt t)) (h6 : ∀ t, t < 3 → tt t < 6) (ha : a < 13) (hp : sf_id (yfi a)) (hq : sf_id (yse a)) (P : post (yce (36 * a + (6 * sf_at (yfi a) tt + sf_at (yse a) tt)))) : wpY_numberIn post (yP, yA, yD, yrk, yrw, ywi, yfm, yce, ykd, ynu, ysz, yva, yfi, yse, yat, ysp) (nI a) := by
  have va : vp_in (nI a) 13 := vp_in_nI ha (by decide)
  have ca : (nI a).toNatClampNeg = a := nI_clamp (by omega)
  have l1 := sf_at_lt hp h6
  have l2 := sf_at_lt hq h6
  have Q49 : wY_numberIn_49 post (nI a) (nI (sf_at (yfi a) tt)) (nI (sf_at (yse a) tt)) yP yA yD yrk yrw ywi yfm yce ykd ynu ysz yva yfi yse yat ysp := by
    unfold wY_numberIn_49
    rw [sf_yi, nI_clamp (by omega), Nat.add_assoc]
    exact ⟨vp_in_nI (by omega) (by decide), P⟩
  have Q24 : wY_numberIn_24 post (nI a) (nI (sf_at (yfi a) tt)) yP yA yD yrk yrw ywi yfm yce ykd ynu ysz yva yfi yse yat ysp := by
    unfold wY_numberIn_24
    rw [ca]
    refine ⟨va, ?_⟩
    rcases sf_ge0 hq with ⟨e, z⟩ | ⟨b, hb, e, z⟩
    · rw [e, sf_at_n] at Q49
      exact br_f z Q49
    · rw [e] at z ⊢
      rw [e, sf_at_p tt hb] at Q49
      rw [nI_clamp (by omega), ht b hb]
      exact br_t z ⟨va, vp_in_nI hb (by decide), Q49⟩
  unfold wpY_numberIn
  dsimp only
  rw [ca]
  refine ⟨va, ?_⟩
  rcases sf_ge0 hp with ⟨e, z⟩ | ⟨b, hb, e, z⟩
  · rw [e, sf_at_n] at Q24
    exact br_f z Q24
  · rw [e] at z ⊢
    rw [e, sf_at_p tt hb] at Q24
    rw [nI_clamp (by omega), ht b hb]
    exact br_t z ⟨va, vp_in_nI hb (by decide), Q24⟩
def sf_op (t : Nat) (x y : Int32) : Int32 := if t = 0 then x + y else if t = 1 then x - y else x * y
theorem sx_joined {post : Int32 → Prop} {t : Nat} {x y : Int32} (ht : t < 3) (P : post (sf_op t x y)) : wpX_joined post (nI t) x y := by
  match t, ht, P with
  | 0, _, P => exact br_t rfl P
  | 1, _, P => exact br_f (by decide) (br_t rfl P)
  | 2, _, P => exact br_f (by decide) (br_f (by decide) P)
theorem sx_ev_c {post : Int32 → SX → Prop} {xD xC : Int32} {xrk xrw xcl xfm xnm xk xa xcp xfi xse xsp xin xva : Nat → Int32} {n i h m : Nat} (hi : i < n) (hn : n ≤ 20) (hh : h < 6) (ek : xk i = 3) (K : wX_formulaValue_4 post (nI n) xD xC m (nI (h + 1)) (nI (i + 1)) xrk xrw xcl xfm xnm xk xa xcp xfi xse xsp xin (upd xva h (xa i))) : wX_formulaValue_4 post (nI n) xD xC (m + 1) (nI h) (nI i) xrk xrw xcl xfm xnm xk xa xcp xfi xse xsp xin xva := by
  have vi : vp_in (nI i) 20 := vp_in_nI (by omega) (by decide)
  have ci : (nI i).toNatClampNeg = i := nI_clamp (by omega)
  have vh : vp_in (nI h) 6 := vp_in_nI hh (by decide)
  have ch : (nI h).toNatClampNeg = h := nI_clamp (by omega)
  exact br_f (nI_ge hi (by omega)) ⟨vi, nm_r (e' := 3) (by rw [ci, ek]) (br_t rfl ⟨vi, vh, nm_r (e' := upd xva h (xa i)) (by rw [ch, ci]) (nm_r (nI_1 h) (nm_r (nI_1 i) K))⟩)⟩
theorem sx_ev_a {post : Int32 → SX → Prop} {xD xC : Int32} {xrk xrw xcl xfm xnm xk xa xcp xfi xse xsp xin xva : Nat → Int32} {n i h m a : Nat} (tt : Nat → Nat) (ht : ∀ t, t < 3 → xin t = nI (tt t)) (h6 : ∀ t, t < 3 → tt t < 6) (hi : i < n) (hn : n ≤ 20) (hh : h < 6) (ek : xk i = 4) (ea : xa i = nI a) (ha : a < 6) (hp : sf_id (xfi a)) (hq : sf_id (xse a)) (K : wX_formulaValue_4 post (nI n) xD xC m (nI (h + 1)) (nI (i + 1)) xrk xrw xcl xfm xnm xk xa xcp xfi xse xsp xin (upd xva h (xcp (36 * a + (6 * sf_at (xfi a) tt + sf_at (xse a) tt))))) : wX_formulaValue_4 post (nI n) xD xC (m + 1) (nI h) (nI i) xrk xrw xcl xfm xnm xk xa xcp xfi xse xsp xin xva := by
  have vi : vp_in (nI i) 20 := vp_in_nI (by omega) (by decide)
  have ci : (nI i).toNatClampNeg = i := nI_clamp (by omega)
  have vh : vp_in (nI h) 6 := vp_in_nI hh (by decide)
  have ch : (nI h).toNatClampNeg = h := nI_clamp (by omega)
  refine br_f (nI_ge hi (by omega)) ⟨vi, nm_r (e' := 4) (by rw [ci, ek]) (br_f (by decide) (br_t rfl ⟨vi, ?_⟩))⟩
  rw [ci, ea]
  exact sx_copied tt ht h6 ha hp hq ⟨vh, nm_r (e' := upd xva h (xcp (36 * a + (6 * sf_at (xfi a) tt + sf_at (xse a) tt)))) (by rw [ch]) (nm_r (nI_1 h) (nm_r (nI_1 i) K))⟩
theorem sx_ev_n {post : Int32 → SX → Prop} {xD xC : Int32} {xrk xrw xcl xfm xnm xk xa xcp xfi xse xsp xin xva : Nat → Int32} {n i h m : Nat} (hi : i < n) (hn : n ≤ 20) (h1 : 1 ≤ h) (hh : h ≤ 6) (ek : xk i = 5) (K : wX_formulaValue_4 post (nI n) xD xC m (nI h) (nI (i + 1)) xrk xrw xcl xfm xnm xk xa xcp xfi xse xsp xin (upd xva (h - 1) (-(xva (h - 1))))) : wX_formulaValue_4 post (nI n) xD xC (m + 1) (nI h) (nI i) xrk xrw xcl xfm xnm xk xa xcp xfi xse xsp xin xva := by
  have vi : vp_in (nI i) 20 := vp_in_nI (by omega) (by decide)
  have ci : (nI i).toNatClampNeg = i := nI_clamp (by omega)
  have eh : nI h - 1 = nI (h - 1) := pk_sub (b := 1) h1
  have vh : vp_in (nI h - 1) 6 := by rw [eh]; exact vp_in_nI (by omega) (by decide)
  exact br_f (nI_ge hi (by omega)) ⟨vi, nm_r (e' := 5) (by rw [ci, ek]) (br_f (by decide) (br_f (by decide) (br_t rfl ⟨vh, vh, nm_r (e' := upd xva (h - 1) (-(xva (h - 1)))) (by rw [eh, nI_clamp (by omega)]) (nm_r (nI_1 i) K)⟩)))⟩
theorem sx_ev_j {post : Int32 → SX → Prop} {xD xC : Int32} {xrk xrw xcl xfm xnm xk xa xcp xfi xse xsp xin xva : Nat → Int32} {n i h m t : Nat} (hi : i < n) (hn : n ≤ 20) (h1 : 2 ≤ h) (hh : h ≤ 6) (ht : t < 3) (ek : xk i = nI t) (K : wX_formulaValue_4 post (nI n) xD xC m (nI (h - 1)) (nI (i + 1)) xrk xrw xcl xfm xnm xk xa xcp xfi xse xsp xin (upd xva (h - 2) (sf_op t (xva (h - 2)) (xva (h - 1))))) : wX_formulaValue_4 post (nI n) xD xC (m + 1) (nI h) (nI i) xrk xrw xcl xfm xnm xk xa xcp xfi xse xsp xin xva := by
  have vi : vp_in (nI i) 20 := vp_in_nI (by omega) (by decide)
  have ci : (nI i).toNatClampNeg = i := nI_clamp (by omega)
  have eh : nI h + (-1) = nI (h - 1) := by
    obtain ⟨g, rfl⟩ : ∃ g, h = g + 1 := ⟨h - 1, by omega⟩
    exact pk_m1 g
  have eh2 : nI (h - 1) - 1 = nI (h - 2) := by
    have := pk_sub (a := h - 1) (b := 1) (by omega)
    rw [show h - 1 - 1 = h - 2 by omega] at this
    exact this
  have v1 : vp_in (nI (h - 1)) 6 := vp_in_nI (by omega) (by decide)
  have v2 : vp_in (nI (h - 2)) 6 := vp_in_nI (by omega) (by decide)
  have n3 : ∀ t, t < 3 → ¬ nI t = 3 ∧ ¬ nI t = 4 ∧ ¬ nI t = 5 := by decide
  obtain ⟨m1, m2, m3⟩ := n3 t ht
  refine br_f (nI_ge hi (by omega)) ⟨vi, nm_r (e' := nI t) (by rw [ci, ek]) (br_f m1 (br_f m2 (br_f m3 (nm_r eh ?_))))⟩
  rw [eh2, nI_clamp (by omega), nI_clamp (by omega)]
  exact ⟨v2, v1, sx_joined ht ⟨v2, nm_e (nm_r (nI_1 i) K)⟩⟩
end
section
theorem sy_ev_c {post : Int32 → SY → Prop} {yA yD : Int32} {yrk yrw ywi yfm yce ykd ynu ysz yva yfi yse yat ysp : Nat → Int32} {n i m : Nat} (hi : i < n) (hn : n ≤ 20) (ek : ykd i = 0) (K : wY_workOut_2 post (nI n) yA yD m (nI (i + 1)) yrk yrw ywi yfm yce ykd ynu ysz (upd yva i (ynu i)) yfi yse yat ysp) : wY_workOut_2 post (nI n) yA yD (m + 1) (nI i) yrk yrw ywi yfm yce ykd ynu ysz yva yfi yse yat ysp := by
  have vi : vp_in (nI i) 20 := vp_in_nI (by omega) (by decide)
  have ci : (nI i).toNatClampNeg = i := nI_clamp (by omega)
  exact br_f (nI_ge hi (by omega)) ⟨vi, nm_r (e' := 0) (by rw [ci, ek]) (br_f (by decide) (br_t rfl ⟨vi, vi, nm_r (e' := upd yva i (ynu i)) (by rw [ci]) (nm_r (nI_1 i) K)⟩))⟩
theorem sy_ev_a {post : Int32 → SY → Prop} {yA yD : Int32} {yrk yrw ywi yfm yce ykd ynu ysz yva yfi yse yat ysp : Nat → Int32} {n i m a : Nat} (tt : Nat → Nat) (ht : ∀ t, t < 3 → yat t = nI (tt t)) (h6 : ∀ t, t < 3 → tt t < 6) (hi : i < n) (hn : n ≤ 20) (ek : ykd i = 1) (ea : ynu i = nI a) (ha : a < 13) (hp : sf_id (yfi a)) (hq : sf_id (yse a)) (K : wY_workOut_2 post (nI n) yA yD m (nI (i + 1)) yrk yrw ywi yfm yce ykd ynu ysz (upd yva i (yce (36 * a + (6 * sf_at (yfi a) tt + sf_at (yse a) tt)))) yfi yse yat ysp) : wY_workOut_2 post (nI n) yA yD (m + 1) (nI i) yrk yrw ywi yfm yce ykd ynu ysz yva yfi yse yat ysp := by
  have vi : vp_in (nI i) 20 := vp_in_nI (by omega) (by decide)
  have ci : (nI i).toNatClampNeg = i := nI_clamp (by omega)
  refine br_f (nI_ge hi (by omega)) ⟨vi, nm_r (e' := 1) (by rw [ci, ek]) (br_f (by decide) (br_f (by decide) ⟨vi, ?_⟩))⟩
  rw [ci, ea]
  exact sy_num tt ht h6 ha hp hq ⟨vi, nm_e (nm_r (nI_1 i) K)⟩
theorem sy_ev_n {post : Int32 → SY → Prop} {yA yD : Int32} {yrk yrw ywi yfm yce ykd ynu ysz yva yfi yse yat ysp : Nat → Int32} {n i m : Nat} (hi : i < n) (hn : n ≤ 20) (h1 : 1 ≤ i) (ek : ykd i = 2) (K : wY_workOut_2 post (nI n) yA yD m (nI (i + 1)) yrk yrw ywi yfm yce ykd ynu ysz (upd yva i (-(yva (i - 1)))) yfi yse yat ysp) : wY_workOut_2 post (nI n) yA yD (m + 1) (nI i) yrk yrw ywi yfm yce ykd ynu ysz yva yfi yse yat ysp := by
  have vi : vp_in (nI i) 20 := vp_in_nI (by omega) (by decide)
  have ci : (nI i).toNatClampNeg = i := nI_clamp (by omega)
  have e1 : nI i - 1 = nI (i - 1) := pk_sub (b := 1) h1
  exact br_f (nI_ge hi (by omega)) ⟨vi, nm_r (e' := 2) (by rw [ci, ek]) (br_t (by decide) (br_t rfl ⟨by rw [e1]; exact vp_in_nI (by omega) (by decide), vi, nm_r (e' := upd yva i (-(yva (i - 1)))) (by rw [ci, e1, nI_clamp (by omega)]) (nm_r (nI_1 i) K)⟩))⟩
theorem sy_ev_j {post : Int32 → SY → Prop} {yA yD : Int32} {yrk yrw ywi yfm yce ykd ynu ysz yva yfi yse yat ysp : Nat → Int32} {n i m t e : Nat} (hi : i < n) (hn : n ≤ 20) (h1 : 1 ≤ e) (he : e < i) (hs : ysz (i - 1) = nI (i - e)) (ht : t < 3) (ek : ykd i = nI (3 + t)) (K : wY_workOut_2 post (nI n) yA yD m (nI (i + 1)) yrk yrw ywi yfm yce ykd ynu ysz (upd yva i (sf_op t (yva (e - 1)) (yva (i - 1)))) yfi yse yat ysp) : wY_workOut_2 post (nI n) yA yD (m + 1) (nI i) yrk yrw ywi yfm yce ykd ynu ysz yva yfi yse yat ysp := by
  have vi : vp_in (nI i) 20 := vp_in_nI (by omega) (by decide)
  have ci : (nI i).toNatClampNeg = i := nI_clamp (by omega)
  have e1 : nI i - 1 = nI (i - 1) := pk_sub (b := 1) (by omega)
  have c1 : (nI (i - 1)).toNatClampNeg = i - 1 := nI_clamp (by omega)
  have e2 : nI (i - 1) - nI (i - e) = nI (e - 1) := by
    rw [pk_sub (by omega)]
    exact congrArg nI (by omega)
  have c2 : (nI (e - 1)).toNatClampNeg = e - 1 := nI_clamp (by omega)
  have v1 : vp_in (nI (i - 1)) 20 := vp_in_nI (by omega) (by decide)
  have v2 : vp_in (nI (e - 1)) 20 := vp_in_nI (by omega) (by decide)
  have n3 : ∀ t, t < 3 → ¬ nI (3 + t) = 2 ∧ 2 ≤ nI (3 + t) := by decide
  obtain ⟨m1, m2⟩ := n3 t ht
  refine br_f (nI_ge hi (by omega)) ⟨vi, nm_r (e' := nI (3 + t)) (by rw [ci, ek]) (br_t m2 (br_f m1 ?_))⟩
  rw [e1, c1, hs, e2, c2, ci]
  refine ⟨v1, v2, nm_e ⟨v1, nm_e ?_⟩⟩
  match t, ht, K with
  | 0, _, K => exact br_t rfl ⟨vi, nm_e (nm_r (nI_1 i) K)⟩
  | 1, _, K => exact br_f (by decide) (br_t rfl ⟨vi, nm_e (nm_r (nI_1 i) K)⟩)
  | 2, _, K => exact br_f (by decide) (br_f (by decide) ⟨vi, nm_e (nm_r (nI_1 i) K)⟩)
end
section
/-- the value of part i, from those before it -/
def sf_sv (kd nu sz xa xcp xfi xse : Nat → Int32) (tt : Nat → Nat) (z : Nat → Int32) (i : Nat) : Int32 :=
  if kd i = 0 then nu i else if kd i = 1 then xcp (36 * (xa i).toNatClampNeg + (6 * sf_at (xfi (xa i).toNatClampNeg) tt + sf_at (xse (xa i).toNatClampNeg) tt)) else if kd i = 2 then -(z (i - 1)) else sf_op ((kd i).toNatClampNeg - 3) (z (i - 1 - (sz (i - 1)).toNatClampNeg)) (z (i - 1))
def sf_Z (kd nu sz xa xcp xfi xse : Nat → Int32) (tt : Nat → Nat) : Nat → Nat → Int32
  | 0 => fun _ => 0
  | i + 1 => upd (sf_Z kd nu sz xa xcp xfi xse tt i) i (sf_sv kd nu sz xa xcp xfi xse tt (sf_Z kd nu sz xa xcp xfi xse tt i) i)
theorem sf_sv_c {kd nu sz xa xcp xfi xse : Nat → Int32} {tt : Nat → Nat} {z : Nat → Int32} {i : Nat} (h : kd i = 0) : sf_sv kd nu sz xa xcp xfi xse tt z i = nu i := if_pos h
theorem sf_sv_a {kd nu sz xa xcp xfi xse : Nat → Int32} {tt : Nat → Nat} {z : Nat → Int32} {i a : Nat} (h : kd i = 1) (ha : a < 6) (e : xa i = nI a) : sf_sv kd nu sz xa xcp xfi xse tt z i = xcp (36 * a + (6 * sf_at (xfi a) tt + sf_at (xse a) tt)) := by
  unfold sf_sv
  rw [h, if_neg (by decide), if_pos rfl, e, nI_clamp (by omega)]
theorem sf_sv_n {kd nu sz xa xcp xfi xse : Nat → Int32} {tt : Nat → Nat} {z : Nat → Int32} {i : Nat} (h : kd i = 2) : sf_sv kd nu sz xa xcp xfi xse tt z i = -(z (i - 1)) := by
  unfold sf_sv
  rw [h, if_neg (by decide), if_neg (by decide), if_pos rfl]
theorem sf_sv_j {kd nu sz xa xcp xfi xse : Nat → Int32} {tt : Nat → Nat} {z : Nat → Int32} {i t e : Nat} (h : kd i = nI (3 + t)) (ht : t < 3) (he : e < i) (h1 : 1 ≤ e) (hi : i ≤ 20) (hs : sz (i - 1) = nI (i - e)) : sf_sv kd nu sz xa xcp xfi xse tt z i = sf_op t (z (e - 1)) (z (i - 1)) := by
  have n3 : ∀ t, t < 3 → ¬ nI (3 + t) = 0 ∧ ¬ nI (3 + t) = 1 ∧ ¬ nI (3 + t) = 2 := by decide
  obtain ⟨m1, m2, m3⟩ := n3 t ht
  unfold sf_sv
  rw [h, if_neg m1, if_neg m2, if_neg m3, hs, nI_clamp (by omega), nI_clamp (by omega), show 3 + t - 3 = t by omega, show i - 1 - (i - e) = e - 1 by omega]
theorem sx_eval {xD xC : Int32} {xrk xrw xcl xfm xnm xk xa xcp xfi xse xsp xin : Nat → Int32} {n c : Nat} {yce ykd ynu ysz yfi yse yrw ywi : Nat → Int32} (tt : Nat → Nat) (hx : ∀ t, t < 3 → xin t = nI (tt t)) (h6 : ∀ t, t < 3 → tt t < 6) (hn : n ≤ 20) (hc : c ≤ 6) (hp : ∀ i, i < n → sf_Pt c xk xa ykd ynu ysz i) (hs : sf_Cps c xcp xfi xse yce yfi yse yrw ywi) (hH : sf_H ykd n = 1) (post : Int32 → SX → Prop) (P : ∀ xva, post (sf_Z ykd ynu ysz xa xcp xfi xse tt n (n - 1)) (nI n, xD, xC, xrk, xrw, xcl, xfm, xnm, xk, xa, xcp, xfi, xse, xsp, xin, xva)) :
    ∀ dd i : Nat, i + dd = n → ∀ xva : Nat → Int32, sf_V ykd i xva (sf_Z ykd ynu ysz xa xcp xfi xse tt i) → wX_formulaValue_4 post (nI n) xD xC (dd + 1) (nI (sf_H ykd i)) (nI i) xrk xrw xcl xfm xnm xk xa xcp xfi xse xsp xin xva := by
  intro dd
  induction dd with
  | zero =>
    intro i hi xva hV
    have hi' : i = n := by omega
    subst hi'
    have hi0 : i ≠ 0 := fun y => by rw [y, sf_H_0] at hH; omega
    have et := sf_V_top hV (by omega)
    rw [hH] at et
    refine br_t (nI_le (by omega) (by omega)) ?_
    rw [show xva 0 = _ from et]
    exact P xva
  | succ dd ih =>
    intro i hi xva hV
    obtain ⟨q1, q2, q3, q4⟩ := hp i (by omega)
    have eH := sf_H_s ykd i
    have hH6 : sf_H ykd i ≤ 6 := sf_H6 hp (by omega)
    have hV' := sf_V_s hV q1 (sf_sv ykd ynu ysz xa xcp xfi xse tt (sf_Z ykd ynu ysz xa xcp xfi xse tt i) i)
    have K := ih (i + 1) (by omega) _ hV'
    rcases q4 with ⟨k1, k2, k3⟩ | ⟨k1, k2, a, ha, k3, k4⟩ | ⟨k1, k2⟩ | ⟨t, ht, k1, k2⟩
    · have ea : sf_ar (ykd i) = 0 := by rw [k1]; rfl
      rw [ea] at eH
      rw [eH, ea, sf_sv_c k1, ← k3] at K
      exact sx_ev_c (by omega) hn (by omega) k2 K
    · have ea : sf_ar (ykd i) = 0 := by rw [k1]; rfl
      obtain ⟨b1, b2, b3, b4, b5, b6, b7, b8⟩ := hs a ha
      rw [ea] at eH
      rw [eH, ea, sf_sv_a k1 (by omega) k3] at K
      exact sx_ev_a tt hx h6 (by omega) hn (by omega) k2 k3 (by omega) (by rw [b2]; exact b4) (by rw [b3]; exact b5) K
    · have ea : sf_ar (ykd i) = 1 := by rw [k1]; rfl
      rw [ea] at q1 eH
      rw [eH, ea, sf_sv_n k1, Nat.add_sub_cancel, ← sf_V_top hV q1] at K
      exact sx_ev_n (by omega) hn q1 hH6 k2 K
    · have ea : sf_ar (ykd i) = 2 := by rw [k1]; exact sf_ar3 t ht
      rw [ea] at q1 eH
      obtain ⟨g1, g2, g3, g4⟩ := sf_szi hp (i := i) (by omega) q1
      rw [eH, ea, sf_sv_j k1 ht g3 g2 (by omega) g4, ← sf_V_top hV (by omega), ← sf_V_2 hV q1, show sf_H ykd i + 1 - 2 = sf_H ykd i - 1 by omega] at K
      exact sx_ev_j (by omega) hn q1 hH6 ht k2 K
theorem sf_Z_keep {kd nu sz xa xcp xfi xse : Nat → Int32} {tt : Nat → Nat} {i : Nat} {yva : Nat → Int32} (h : ∀ j, j < i → yva j = sf_Z kd nu sz xa xcp xfi xse tt i j) : ∀ j, j < i + 1 → upd yva i (sf_sv kd nu sz xa xcp xfi xse tt (sf_Z kd nu sz xa xcp xfi xse tt i) i) j = sf_Z kd nu sz xa xcp xfi xse tt (i + 1) j := by
  intro j hj
  show _ = upd (sf_Z kd nu sz xa xcp xfi xse tt i) i _ j
  by_cases z : j = i
  · rw [z, pk_us, pk_us]
  · rw [pk_un z, pk_un z]
    exact h j (by omega)
theorem sy_eval {yA yD : Int32} {yrk yrw ywi yfm yce ykd ynu ysz yfi yse yat ysp : Nat → Int32} {n c : Nat} {xk xa xcp xfi xse : Nat → Int32} (tt : Nat → Nat) (hy : ∀ t, t < 3 → yat t = nI (tt t)) (h6 : ∀ t, t < 3 → tt t < 6) (hn : n ≤ 20) (hc : c ≤ 6) (hp : ∀ i, i < n → sf_Pt c xk xa ykd ynu ysz i) (hs : sf_Cps c xcp xfi xse yce yfi yse yrw ywi) (hH : sf_H ykd n = 1) (post : Int32 → SY → Prop) (P : ∀ yva, post (sf_Z ykd ynu ysz xa xcp xfi xse tt n (n - 1)) (nI n, yA, yD, yrk, yrw, ywi, yfm, yce, ykd, ynu, ysz, yva, yfi, yse, yat, ysp)) :
    ∀ dd i : Nat, i + dd = n → ∀ yva : Nat → Int32, (∀ j, j < i → yva j = sf_Z ykd ynu ysz xa xcp xfi xse tt i j) → wY_workOut_2 post (nI n) yA yD (dd + 1) (nI i) yrk yrw ywi yfm yce ykd ynu ysz yva yfi yse yat ysp := by
  intro dd
  induction dd with
  | zero =>
    intro i hi yva hV
    have hi' : i = n := by omega
    subst hi'
    have hi0 : i ≠ 0 := fun y => by rw [y, sf_H_0] at hH; omega
    have e1 : nI i - 1 = nI (i - 1) := pk_sub (b := 1) (by omega)
    refine br_t (nI_le (by omega) (by omega)) ?_
    rw [e1, nI_clamp (by omega), hV (i - 1) (by omega)]
    exact ⟨vp_in_nI (by omega) (by decide), P yva⟩
  | succ dd ih =>
    intro i hi yva hV
    obtain ⟨q1, q2, q3, q4⟩ := hp i (by omega)
    have hi1 : 1 ≤ sf_H ykd i → 1 ≤ i := fun y => by
      cases i with
      | zero => rw [sf_H_0] at y; omega
      | succ i => omega
    have K := ih (i + 1) (by omega) _ (sf_Z_keep hV)
    rcases q4 with ⟨k1, k2, k3⟩ | ⟨k1, k2, a, ha, k3, k4⟩ | ⟨k1, k2⟩ | ⟨t, ht, k1, k2⟩
    · rw [sf_sv_c k1] at K
      exact sy_ev_c (by omega) hn k1 K
    · obtain ⟨b1, b2, b3, b4, b5, b6, b7, b8⟩ := hs a ha
      have l1 := sf_at_lt b4 h6
      have l2 := sf_at_lt b5 h6
      rw [sf_sv_a k1 (by omega) k3, b2, b3, b1 _ (by omega), show 216 + 36 * a + (6 * sf_at (yfi (6 + a)) tt + sf_at (yse (6 + a)) tt) = 36 * (6 + a) + (6 * sf_at (yfi (6 + a)) tt + sf_at (yse (6 + a)) tt) by omega] at K
      exact sy_ev_a tt hy h6 (by omega) hn k1 k4 (by omega) b4 b5 K
    · have ea : sf_ar (ykd i) = 1 := by rw [k1]; rfl
      rw [ea] at q1
      have := hi1 q1
      rw [sf_sv_n k1, ← hV (i - 1) (by omega)] at K
      exact sy_ev_n (by omega) hn this k1 K
    · have ea : sf_ar (ykd i) = 2 := by rw [k1]; exact sf_ar3 t ht
      rw [ea] at q1
      obtain ⟨g1, g2, g3, g4⟩ := sf_szi hp (i := i) (by omega) q1
      rw [sf_sv_j k1 ht g3 g2 (by omega) g4, ← hV (i - 1) (by omega), ← hV (sf_E ykd i (sf_H ykd i - 1) - 1) (by omega)] at K
      exact sy_ev_j (by omega) hn g2 g3 g4 ht k1 K
end
section
/-- the three index numbers of round N -/
def sf_tt (l1 l2 N t : Nat) : Nat := if t = 0 then N / (l1 * l2) else if t = 1 then N / l2 % l1 else N % l2
theorem sf_tt_ix {l1 l2 a b c : Nat} (hb : b < l1) (hc : c < l2) : sf_tt l1 l2 ((a * l1 + b) * l2 + c) 0 = a ∧ sf_tt l1 l2 ((a * l1 + b) * l2 + c) 1 = b ∧ sf_tt l1 l2 ((a * l1 + b) * l2 + c) 2 = c := by
  have e1 : ((a * l1 + b) * l2 + c) / l2 = a * l1 + b := by
    rw [Nat.add_comm, Nat.add_mul_div_right _ _ (by omega), Nat.div_eq_of_lt hc, Nat.zero_add]
  have e2 : ((a * l1 + b) * l2 + c) % l2 = c := by
    rw [Nat.add_comm, Nat.add_mul_mod_self_right, Nat.mod_eq_of_lt hc]
  have e3 : (a * l1 + b) / l1 = a := by
    rw [Nat.add_comm, Nat.add_mul_div_right _ _ (by omega), Nat.div_eq_of_lt hb, Nat.zero_add]
  have e4 : (a * l1 + b) % l1 = b := by
    rw [Nat.add_comm, Nat.add_mul_mod_self_right, Nat.mod_eq_of_lt hb]
  refine ⟨?_, ?_, ?_⟩
  · show ((a * l1 + b) * l2 + c) / (l1 * l2) = a
    rw [Nat.mul_comm l1 l2, ← Nat.div_div_eq_div_mul, e1, e3]
  · show ((a * l1 + b) * l2 + c) / l2 % l1 = b
    rw [e1, e4]
  · exact e2
theorem sf_tt_lt {l0 l1 l2 N : Nat} (h1 : 0 < l1) (h2 : 0 < l2) (hN : N < l0 * l1 * l2) : sf_tt l1 l2 N 0 < l0 ∧ sf_tt l1 l2 N 1 < l1 ∧ sf_tt l1 l2 N 2 < l2 := by
  refine ⟨?_, Nat.mod_lt _ h1, Nat.mod_lt _ h2⟩
  show N / (l1 * l2) < l0
  apply Nat.div_lt_of_lt_mul
  rw [Nat.mul_comm, ← Nat.mul_assoc]
  exact hN
/-- cells after N additions -/
def sf_cel (y0 : Nat → Int32) (pl : Nat → Nat) (vl : Nat → Int32) : Nat → Nat → Int32
  | 0 => y0
  | N + 1 => upd (sf_cel y0 pl vl N) (pl N) (sf_cel y0 pl vl N (pl N) + vl N)
theorem sf_cel_o {y0 : Nat → Int32} {pl : Nat → Nat} {vl : Nat → Int32} {lo hi : Nat} : ∀ N, (∀ M, M < N → lo ≤ pl M ∧ pl M < hi) → ∀ k, (k < lo ∨ hi ≤ k) → sf_cel y0 pl vl N k = y0 k := by
  intro N
  induction N with
  | zero => intro _ k _; rfl
  | succ N ih =>
    intro h k hk
    have := h N (by omega)
    show upd (sf_cel y0 pl vl N) (pl N) _ k = y0 k
    rw [pk_un (by omega)]
    exact ih (fun M hM => h M (by omega)) k hk
theorem sf_cel_O {y0 : Nat → Int32} {pl : Nat → Nat} {vl : Nat → Int32} {to h w : Nat} (hw : w ≤ 6) (O : sf_Out h w (fun i => y0 (36 * to + i))) : ∀ N, (∀ M, M < N → ∃ i j, i < h ∧ j < w ∧ pl M = 36 * to + (6 * i + j)) → sf_Out h w (fun i => sf_cel y0 pl vl N (36 * to + i)) := by
  intro N
  induction N with
  | zero => intro _; exact O
  | succ N ih =>
    intro hM i j hi hj hz
    obtain ⟨a, b, ha, hb, e⟩ := hM N (by omega)
    show upd (sf_cel y0 pl vl N) (pl N) _ (36 * to + (6 * i + j)) = 0
    rw [e, pk_un (by omega)]
    exact ih (fun M h => hM M (by omega)) i j hi hj hz
theorem sf_cel_x {y0 xnm : Nat → Int32} {pl : Nat → Nat} {vl : Nat → Int32} {N : Nat} (hp : pl N < 216) (h : ∀ k, k < 216 → xnm k = sf_cel y0 pl vl N k) : ∀ k, k < 216 → upd xnm (pl N) (xnm (pl N) + vl N) k = sf_cel y0 pl vl (N + 1) k := by
  intro k hk
  show _ = upd (sf_cel y0 pl vl N) (pl N) (sf_cel y0 pl vl N (pl N) + vl N) k
  by_cases z : k = pl N
  · rw [z, pk_us, pk_us, h _ hp]
  · rw [pk_un z, pk_un z]
    exact h k hk
/-- one round of the component's innermost loop -/
theorem sx_add_step {post : SX → Prop} {J66 J84 : Int32 → Int32 → Int32 → Int32 → (Nat → Int32) → (Nat → Int32) → (Nat → Int32) → (Nat → Int32) → (Nat → Int32) → (Nat → Int32) → (Nat → Int32) → (Nat → Int32) → (Nat → Int32) → (Nat → Int32) → (Nat → Int32) → (Nat → Int32) → (Nat → Int32) → Prop} {xD xC : Int32} {xrk xrw xcl xfm xnm xk xa xcp xfi xse xsp xin xva : Nat → Int32} {n c to l2 e m : Nat} {p q x4 x5 x7 x8 : Int32} {yce ykd ynu ysz yfi yse yrw ywi : Nat → Int32} (tt : Nat → Nat) (hx : ∀ t, t < 3 → upd xin 2 (nI e) t = nI (tt t)) (h6 : ∀ t, t < 3 → tt t < 6) (hn : n ≤ 20) (hc : c ≤ 6) (hp : ∀ i, i < n → sf_Pt c xk xa ykd ynu ysz i) (hs : sf_Cps c xcp xfi xse yce yfi yse yrw ywi) (hH : sf_H ykd n = 1) (hto : to < 6) (hp1 : sf_id p) (hq1 : sf_id q) (he : e < l2) (hl2 : l2 ≤ 6)
    (K : ∀ xva', wX_addUpFormula_102 post J66 J84 (nI to) p q x4 x5 (nI l2) x7 x8 m (nI (e + 1)) (nI n) xD xC xrk xrw xcl xfm (upd xnm (36 * to + (6 * sf_at p tt + sf_at q tt)) (xnm (36 * to + (6 * sf_at p tt + sf_at q tt)) + sf_Z ykd ynu ysz xa xcp xfi xse tt n (n - 1))) xk xa xcp xfi xse xsp (upd xin 2 (nI e)) xva') : wX_addUpFormula_102 post J66 J84 (nI to) p q x4 x5 (nI l2) x7 x8 (m + 1) (nI e) (nI n) xD xC xrk xrw xcl xfm xnm xk xa xcp xfi xse xsp xin xva := by
  have l1 := sf_at_lt hp1 h6
  have l2' := sf_at_lt hq1 h6
  have ei : nI to * 36 + nI (6 * sf_at p tt + sf_at q tt) = nI (36 * to + (6 * sf_at p tt + sf_at q tt)) := sf_xp to _
  have ec : (nI (36 * to + (6 * sf_at p tt + sf_at q tt))).toNatClampNeg = 36 * to + (6 * sf_at p tt + sf_at q tt) := nI_clamp (by omega)
  have ev : vp_in (nI (36 * to + (6 * sf_at p tt + sf_at q tt))) 216 := vp_in_nI (by omega) (by decide)
  refine br_f (nI_ge he (by omega)) (nm_e (sx_place tt hx hp1 hq1 ?_))
  rw [ei, ec]
  refine ⟨ev, ?_⟩
  unfold wpX_formulaValue
  dsimp only
  exact ⟨n + 1, sx_eval tt hx h6 hn hc hp hs hH _ (fun xva' => ⟨ev, nm_e (nm_r (nI_1 e) (K xva'))⟩) n 0 (by omega) xva (sf_V_0 _ _ _)⟩
end
section
def sf_C (ykd ynu ysz xa xcp xfi xse y0 : Nat → Int32) (n to l1 l2 : Nat) (p q : Int32) : Nat → Nat → Int32 :=
  sf_cel y0 (fun N => 36 * to + (6 * sf_at p (sf_tt l1 l2 N) + sf_at q (sf_tt l1 l2 N))) (fun N => sf_Z ykd ynu ysz xa xcp xfi xse (sf_tt l1 l2 N) n (n - 1))
theorem sf_3 {P : Nat → Prop} (h0 : P 0) (h1 : P 1) (h2 : P 2) : ∀ t, t < 3 → P t := by
  intro t ht
  match t, ht with
  | 0, _ => exact h0
  | 1, _ => exact h1
  | 2, _ => exact h2
theorem sx_add102 {post : SX → Prop} {J66 J84 : Int32 → Int32 → Int32 → Int32 → (Nat → Int32) → (Nat → Int32) → (Nat → Int32) → (Nat → Int32) → (Nat → Int32) → (Nat → Int32) → (Nat → Int32) → (Nat → Int32) → (Nat → Int32) → (Nat → Int32) → (Nat → Int32) → (Nat → Int32) → (Nat → Int32) → Prop} {xD xC : Int32} {xrk xrw xcl xfm xnm xk xa xcp xfi xse xsp xin xva : Nat → Int32} {n c to l0 l1 l2 a b : Nat} {p q : Int32} {yce ykd ynu ysz yfi yse yrw ywi y0 : Nat → Int32} (hn : n ≤ 20) (hc : c ≤ 6) (hp : ∀ i, i < n → sf_Pt c xk xa ykd ynu ysz i) (hs : sf_Cps c xcp xfi xse yce yfi yse yrw ywi) (hH : sf_H ykd n = 1) (hto : to < 6) (hp1 : sf_id p) (hq1 : sf_id q) (hl0 : l0 ≤ 6) (hl1 : l1 ≤ 6) (hl2 : l2 ≤ 6) (ha : a < l0) (hb : b < l1)
    (hx0 : xin 0 = nI a) (hx1 : xin 1 = nI b) (hag : ∀ k, k < 216 → xnm k = sf_C ykd ynu ysz xa xcp xfi xse y0 n to l1 l2 p q ((a * l1 + b) * l2) k)
    (K : ∀ xnm xin xva, xin 0 = nI a → (∀ k, k < 216 → xnm k = sf_C ykd ynu ysz xa xcp xfi xse y0 n to l1 l2 p q ((a * l1 + (b + 1)) * l2) k) → J84 (nI (b + 1)) (nI n) xD xC xrk xrw xcl xfm xnm xk xa xcp xfi xse xsp xin xva) :
    ∃ m, wX_addUpFormula_102 post J66 J84 (nI to) p q (nI l0) (nI l1) (nI l2) (nI a) (nI b) m 0 (nI n) xD xC xrk xrw xcl xfm xnm xk xa xcp xfi xse xsp xin xva := by
  have ee : (a * l1 + (b + 1)) * l2 = (a * l1 + b) * l2 + l2 := by rw [← Nat.add_assoc, Nat.succ_mul]
  refine pk_loop (fun m e (s : (Nat → Int32) × (Nat → Int32) × (Nat → Int32)) => wX_addUpFormula_102 post J66 J84 (nI to) p q (nI l0) (nI l1) (nI l2) (nI a) (nI b) m (nI e) (nI n) xD xC xrk xrw xcl xfm s.1 xk xa xcp xfi xse xsp s.2.1 s.2.2) (fun e s => s.2.1 0 = nI a ∧ s.2.1 1 = nI b ∧ ∀ k, k < 216 → s.1 k = sf_C ykd ynu ysz xa xcp xfi xse y0 n to l1 l2 p q ((a * l1 + b) * l2 + e) k) l2 0 (xnm, xin, xva) (by omega) ⟨hx0, hx1, hag⟩ (fun m s h => br_t (nI_le (by omega) (by omega)) (nm_r (nI_1 b) (K s.1 s.2.1 s.2.2 h.1 (by rw [ee]; exact h.2.2)))) (fun m e s he h k => ?_)
  obtain ⟨xnm, xin, xva⟩ := s
  obtain ⟨h0, h1, h2⟩ := h
  obtain ⟨t0, t1, t2⟩ := sf_tt_ix (a := a) hb he
  have h6 : ∀ t, t < 3 → sf_tt l1 l2 ((a * l1 + b) * l2 + e) t < 6 := sf_3 (by rw [t0]; omega) (by rw [t1]; omega) (by rw [t2]; omega)
  have hx : ∀ t, t < 3 → upd xin 2 (nI e) t = nI (sf_tt l1 l2 ((a * l1 + b) * l2 + e) t) := sf_3 (by rw [t0, pk_un (by omega)]; exact h0) (by rw [t1, pk_un (by omega)]; exact h1) (by rw [t2, pk_us])
  have y1 := sf_at_lt hp1 h6
  have y2 := sf_at_lt hq1 h6
  have g0 : upd xin 2 (nI e) 0 = nI a := (pk_un (by omega)).trans h0
  have g1 : upd xin 2 (nI e) 1 = nI b := (pk_un (by omega)).trans h1
  have g2 : ∀ k, k < 216 → upd xnm (36 * to + (6 * sf_at p (sf_tt l1 l2 ((a * l1 + b) * l2 + e)) + sf_at q (sf_tt l1 l2 ((a * l1 + b) * l2 + e)))) (xnm (36 * to + (6 * sf_at p (sf_tt l1 l2 ((a * l1 + b) * l2 + e)) + sf_at q (sf_tt l1 l2 ((a * l1 + b) * l2 + e)))) + sf_Z ykd ynu ysz xa xcp xfi xse (sf_tt l1 l2 ((a * l1 + b) * l2 + e)) n (n - 1)) k = sf_C ykd ynu ysz xa xcp xfi xse y0 n to l1 l2 p q ((a * l1 + b) * l2 + e + 1) k := sf_cel_x (N := (a * l1 + b) * l2 + e) (by show 36 * to + _ < 216; omega) h2
  exact sx_add_step (sf_tt l1 l2 ((a * l1 + b) * l2 + e)) hx h6 hn hc hp hs hH hto hp1 hq1 he hl2 (fun xva' => k (upd xnm (36 * to + (6 * sf_at p (sf_tt l1 l2 ((a * l1 + b) * l2 + e)) + sf_at q (sf_tt l1 l2 ((a * l1 + b) * l2 + e)))) (xnm (36 * to + (6 * sf_at p (sf_tt l1 l2 ((a * l1 + b) * l2 + e)) + sf_at q (sf_tt l1 l2 ((a * l1 + b) * l2 + e)))) + sf_Z ykd ynu ysz xa xcp xfi xse (sf_tt l1 l2 ((a * l1 + b) * l2 + e)) n (n - 1)), upd xin 2 (nI e), xva') ⟨g0, g1, g2⟩)
theorem sx_add84 {post : SX → Prop} {J66 : Int32 → Int32 → Int32 → Int32 → (Nat → Int32) → (Nat → Int32) → (Nat → Int32) → (Nat → Int32) → (Nat → Int32) → (Nat → Int32) → (Nat → Int32) → (Nat → Int32) → (Nat → Int32) → (Nat → Int32) → (Nat → Int32) → (Nat → Int32) → (Nat → Int32) → Prop} {xD xC : Int32} {xrk xrw xcl xfm xnm xk xa xcp xfi xse xsp xin xva : Nat → Int32} {n c to l0 l1 l2 a : Nat} {p q : Int32} {yce ykd ynu ysz yfi yse yrw ywi y0 : Nat → Int32} (hn : n ≤ 20) (hc : c ≤ 6) (hp : ∀ i, i < n → sf_Pt c xk xa ykd ynu ysz i) (hs : sf_Cps c xcp xfi xse yce yfi yse yrw ywi) (hH : sf_H ykd n = 1) (hto : to < 6) (hp1 : sf_id p) (hq1 : sf_id q) (hl0 : l0 ≤ 6) (hl1 : l1 ≤ 6) (hl2 : l2 ≤ 6) (ha : a < l0)
    (hx0 : xin 0 = nI a) (hag : ∀ k, k < 216 → xnm k = sf_C ykd ynu ysz xa xcp xfi xse y0 n to l1 l2 p q (a * l1 * l2) k)
    (K : ∀ xnm xin xva, (∀ k, k < 216 → xnm k = sf_C ykd ynu ysz xa xcp xfi xse y0 n to l1 l2 p q ((a + 1) * l1 * l2) k) → J66 (nI (a + 1)) (nI n) xD xC xrk xrw xcl xfm xnm xk xa xcp xfi xse xsp xin xva) :
    ∃ m, wX_addUpFormula_84 post J66 (nI to) p q (nI l0) (nI l1) (nI l2) (nI a) m 0 (nI n) xD xC xrk xrw xcl xfm xnm xk xa xcp xfi xse xsp xin xva := by
  have ee : (a + 1) * l1 * l2 = (a * l1 + l1) * l2 := by rw [Nat.succ_mul]
  refine pk_loop (fun m b (s : (Nat → Int32) × (Nat → Int32) × (Nat → Int32)) => wX_addUpFormula_84 post J66 (nI to) p q (nI l0) (nI l1) (nI l2) (nI a) m (nI b) (nI n) xD xC xrk xrw xcl xfm s.1 xk xa xcp xfi xse xsp s.2.1 s.2.2) (fun b s => s.2.1 0 = nI a ∧ ∀ k, k < 216 → s.1 k = sf_C ykd ynu ysz xa xcp xfi xse y0 n to l1 l2 p q ((a * l1 + b) * l2) k) l1 0 (xnm, xin, xva) (by omega) ⟨hx0, hag⟩ (fun m s h => br_t (nI_le (by omega) (by omega)) (nm_r (nI_1 a) (K s.1 s.2.1 s.2.2 (by rw [ee]; exact h.2)))) (fun m b s hb h k => br_f (nI_ge hb (by omega)) (nm_e ?_))
  exact sx_add102 hn hc hp hs hH hto hp1 hq1 hl0 hl1 hl2 ha hb ((pk_un (by omega)).trans h.1) pk_us h.2 (fun xnm xin xva g0 g1 => k (xnm, xin, xva) ⟨g0, g1⟩)
theorem sx_add66 {post : SX → Prop} {xD xC : Int32} {xrk xrw xcl xfm xnm xk xa xcp xfi xse xsp xin xva : Nat → Int32} {n c to l0 l1 l2 : Nat} {p q : Int32} {yce ykd ynu ysz yfi yse yrw ywi y0 : Nat → Int32} (hn : n ≤ 20) (hc : c ≤ 6) (hp : ∀ i, i < n → sf_Pt c xk xa ykd ynu ysz i) (hs : sf_Cps c xcp xfi xse yce yfi yse yrw ywi) (hH : sf_H ykd n = 1) (hto : to < 6) (hp1 : sf_id p) (hq1 : sf_id q) (hl0 : l0 ≤ 6) (hl1 : l1 ≤ 6) (hl2 : l2 ≤ 6)
    (hag : ∀ k, k < 216 → xnm k = y0 k)
    (K : ∀ xnm xin xva, (∀ k, k < 216 → xnm k = sf_C ykd ynu ysz xa xcp xfi xse y0 n to l1 l2 p q (l0 * l1 * l2) k) → post (nI n, xD, xC, xrk, xrw, xcl, xfm, xnm, xk, xa, xcp, xfi, xse, xsp, xin, xva)) :
    ∃ m, wX_addUpFormula_66 post (nI to) p q (nI l0) (nI l1) (nI l2) m 0 (nI n) xD xC xrk xrw xcl xfm xnm xk xa xcp xfi xse xsp xin xva := by
  refine pk_loop (fun m a (s : (Nat → Int32) × (Nat → Int32) × (Nat → Int32)) => wX_addUpFormula_66 post (nI to) p q (nI l0) (nI l1) (nI l2) m (nI a) (nI n) xD xC xrk xrw xcl xfm s.1 xk xa xcp xfi xse xsp s.2.1 s.2.2) (fun a s => ∀ k, k < 216 → s.1 k = sf_C ykd ynu ysz xa xcp xfi xse y0 n to l1 l2 p q (a * l1 * l2) k) l0 0 (xnm, xin, xva) (by omega) ?_ (fun m s h => br_t (nI_le (by omega) (by omega)) (K s.1 s.2.1 s.2.2 h)) (fun m a s ha h k => br_f (nI_ge ha (by omega)) (nm_e ?_))
  · rw [Nat.zero_mul, Nat.zero_mul]
    exact hag
  · exact sx_add84 hn hc hp hs hH hto hp1 hq1 hl0 hl1 hl2 ha pk_us h (fun xnm xin xva g => k (xnm, xin, xva) g)
theorem sy_add_step {post : Int32 → SY → Prop} {yA yD : Int32} {yrk yrw ywi yfm yce ykd ynu ysz yva yfi yse yat ysp : Nat → Int32} {n c to l0 l1 l2 N m : Nat} {p q : Int32} {xk xa xcp xfi xse : Nat → Int32} (hn : n ≤ 20) (hc : c ≤ 6) (hp : ∀ i, i < n → sf_Pt c xk xa ykd ynu ysz i) (hs : sf_Cps c xcp xfi xse yce yfi yse yrw ywi) (hH : sf_H ykd n = 1) (hto : to < 6) (hp1 : sf_id p) (hq1 : sf_id q) (hl0 : l0 ≤ 6) (hl1 : l1 ≤ 6) (hl2 : l2 ≤ 6) (h1 : 1 ≤ l1) (h2 : 1 ≤ l2) (hT : l0 * l1 * l2 ≤ 216) (hN : N < l0 * l1 * l2)
    (K : ∀ yat' yva', wY_assign_239 post (nI to) p q (nI l0) (nI l1) (nI l2) m (nI (N + 1)) (nI n) yA yD yrk yrw ywi yfm (upd yce (36 * to + (6 * sf_at p (sf_tt l1 l2 N) + sf_at q (sf_tt l1 l2 N))) (yce (36 * to + (6 * sf_at p (sf_tt l1 l2 N) + sf_at q (sf_tt l1 l2 N))) + sf_Z ykd ynu ysz xa xcp xfi xse (sf_tt l1 l2 N) n (n - 1))) ykd ynu ysz yva' yfi yse yat' ysp) : wY_assign_239 post (nI to) p q (nI l0) (nI l1) (nI l2) (m + 1) (nI N) (nI n) yA yD yrk yrw ywi yfm yce ykd ynu ysz yva yfi yse yat ysp := by
  obtain ⟨t0, t1, t2⟩ := sf_tt_lt (l0 := l0) (by omega) (by omega) hN
  have h6 : ∀ t, t < 3 → sf_tt l1 l2 N t < 6 := sf_3 (by omega) (by omega) (by omega)
  have y1 := sf_at_lt hp1 h6
  have y2 := sf_at_lt hq1 h6
  have h12 : 0 < l1 * l2 := Nat.mul_pos (by omega) (by omega)
  have h12' : l1 * l2 ≤ 36 := Nat.mul_le_mul hl1 hl2
  have e0 : nI l0 * nI l1 * nI l2 = nI (l0 * l1 * l2) := by rw [pk_mul, pk_mul]
  have e1 : nI N / (nI l1 * nI l2) = nI (sf_tt l1 l2 N 0) := by rw [pk_mul]; exact pk_div (by omega) h12 (by omega)
  have e2 : nI N / nI l2 = nI (N / l2) := pk_div (by omega) (by omega) (by omega)
  have e3 : nI N / nI l2 - nI N / nI l2 / nI l1 * nI l1 = nI (sf_tt l1 l2 N 1) := by
    rw [e2]
    exact pk_rem (Nat.lt_of_le_of_lt (Nat.div_le_self N l2) (by omega)) (by omega) (by omega)
  have e4 : nI N - nI N / nI l2 * nI l2 = nI (sf_tt l1 l2 N 2) := pk_rem (by omega) (by omega) (by omega)
  have z1 : ¬ nI l1 = 0 := nI_ne0 (by omega) (by omega)
  have z2 : ¬ nI l2 = 0 := nI_ne0 (by omega) (by omega)
  have z12 : ¬ nI l1 * nI l2 = 0 := by rw [pk_mul]; exact nI_ne0 h12 (by omega)
  have hy : ∀ t, t < 3 → upd (upd (upd yat 0 (nI (sf_tt l1 l2 N 0))) 1 (nI (sf_tt l1 l2 N 1))) 2 (nI (sf_tt l1 l2 N 2)) t = nI (sf_tt l1 l2 N t) := sf_3 (by rw [pk_un (by omega), pk_un (by omega), pk_us]) (by rw [pk_un (by omega), pk_us]) pk_us
  generalize hyat : upd (upd (upd yat 0 (nI (sf_tt l1 l2 N 0))) 1 (nI (sf_tt l1 l2 N 1))) 2 (nI (sf_tt l1 l2 N 2)) = yat2 at hy
  have Q327 : wY_assign_327 post (wY_assign_239 post (nI to) p q (nI l0) (nI l1) (nI l2) m) (nI to) p q (nI l0) (nI l1) (nI l2) (nI N) (nI (sf_at q (sf_tt l1 l2 N))) (36 * nI to + 6 * nI (sf_at p (sf_tt l1 l2 N))) (nI n) yA yD yrk yrw ywi yfm yce ykd ynu ysz yva yfi yse yat2 ysp := by
    have ev : vp_in (nI (36 * to + (6 * sf_at p (sf_tt l1 l2 N) + sf_at q (sf_tt l1 l2 N)))) 468 := vp_in_nI (by omega) (by decide)
    refine nm_r (e' := nI (36 * to + (6 * sf_at p (sf_tt l1 l2 N) + sf_at q (sf_tt l1 l2 N)))) ((sf_yi to _ _).trans (by rw [Nat.add_assoc])) ?_
    rw [nI_clamp (by omega)]
    refine ⟨ev, ?_⟩
    unfold wpY_workOut
    dsimp only
    exact ⟨n + 1, sy_eval (sf_tt l1 l2 N) hy h6 hn hc hp hs hH _ (fun yva' => ⟨ev, nm_e (nm_r (nI_1 N) (K yat2 yva'))⟩) n 0 (by omega) yva (fun j hj => absurd hj (Nat.not_lt_zero j))⟩
  have Q312 : wY_assign_312 post (wY_assign_239 post (nI to) p q (nI l0) (nI l1) (nI l2) m) (nI to) p q (nI l0) (nI l1) (nI l2) (nI N) (6 * nI (sf_at p (sf_tt l1 l2 N))) (36 * nI to) (nI n) yA yD yrk yrw ywi yfm yce ykd ynu ysz yva yfi yse yat2 ysp := by
    rcases sf_ge0 hq1 with ⟨e, z⟩ | ⟨b, hb, e, z⟩
    · rw [show sf_at q (sf_tt l1 l2 N) = 0 by rw [e, sf_at_n]] at Q327
      exact br_f z Q327
    · refine br_t z ⟨by rw [e]; exact vp_in_nI hb (by decide), ?_⟩
      rw [show sf_at q (sf_tt l1 l2 N) = sf_tt l1 l2 N b by rw [e, sf_at_p _ hb]] at Q327
      rw [show yat2 q.toNatClampNeg = nI (sf_tt l1 l2 N b) by rw [e, nI_clamp (by omega), hy b hb]]
      exact Q327
  refine br_f (by rw [e0]; exact nI_ge hN (by omega)) ⟨z12, nm_r (e' := upd yat 0 (nI (sf_tt l1 l2 N 0))) (by rw [e1]) ⟨z2, z1, nm_r (e' := upd (upd yat 0 (nI (sf_tt l1 l2 N 0))) 1 (nI (sf_tt l1 l2 N 1))) (by rw [e3]) ⟨z2, nm_r (e' := yat2) (by rw [e4]; exact hyat) ?_⟩⟩⟩
  rcases sf_ge0 hp1 with ⟨e, z⟩ | ⟨b, hb, e, z⟩
  · rw [show sf_at p (sf_tt l1 l2 N) = 0 by rw [e, sf_at_n]] at Q312
    exact br_f z Q312
  · refine br_t z ⟨by rw [e]; exact vp_in_nI hb (by decide), ?_⟩
    rw [show sf_at p (sf_tt l1 l2 N) = sf_tt l1 l2 N b by rw [e, sf_at_p _ hb]] at Q312
    rw [show yat2 p.toNatClampNeg = nI (sf_tt l1 l2 N b) by rw [e, nI_clamp (by omega), hy b hb]]
    exact Q312
end
section
theorem sf_Cps_cg {c : Nat} (hc : c ≤ 6) {xcp xfi xse yce yce' yfi yse yrw ywi yrw' ywi' : Nat → Int32} (h : sf_Cps c xcp xfi xse yce yfi yse yrw ywi) (h1 : ∀ k, 216 ≤ k → k < 432 → yce' k = yce k) (h2 : ∀ a, 6 ≤ a → yrw' a = yrw a) (h3 : ∀ a, 6 ≤ a → ywi' a = ywi a) : sf_Cps c xcp xfi xse yce' yfi yse yrw' ywi' := by
  intro a ha
  obtain ⟨b1, b2, b3, b4, b5, b6, b7, b8⟩ := h a ha
  refine ⟨fun k hk => ?_, b2, b3, b4, b5, b6, ?_, ?_⟩
  · rw [h1 _ (by omega) (by omega)]; exact b1 k hk
  · rw [h2 _ (by omega)]; exact b7
  · rw [h3 _ (by omega)]; exact b8
theorem sf_C_o {ykd ynu ysz xa xcp xfi xse y0 : Nat → Int32} {n to l0 l1 l2 : Nat} {p q : Int32} (hp1 : sf_id p) (hq1 : sf_id q) (hl0 : l0 ≤ 6) (hl1 : l1 ≤ 6) (hl2 : l2 ≤ 6) (h1 : 1 ≤ l1) (h2 : 1 ≤ l2) {N : Nat} (hN : N ≤ l0 * l1 * l2) : ∀ k, (k < 36 * to ∨ 36 * to + 36 ≤ k) → sf_C ykd ynu ysz xa xcp xfi xse y0 n to l1 l2 p q N k = y0 k := by
  refine sf_cel_o N (fun M hM => ?_)
  obtain ⟨t0, t1, t2⟩ := sf_tt_lt (l0 := l0) (N := M) (l1 := l1) (l2 := l2) (by omega) (by omega) (by omega)
  have h6 : ∀ t, t < 3 → sf_tt l1 l2 M t < 6 := sf_3 (by omega) (by omega) (by omega)
  have y1 := sf_at_lt hp1 h6
  have y2 := sf_at_lt hq1 h6
  exact ⟨by omega, by omega⟩
theorem sy_add239 {post : Int32 → SY → Prop} {yA yD : Int32} {yrk yrw ywi yfm yce ykd ynu ysz yva yfi yse yat ysp : Nat → Int32} {n c to l0 l1 l2 : Nat} {p q : Int32} {xk xa xcp xfi xse : Nat → Int32} (hn : n ≤ 20) (hc : c ≤ 6) (hp : ∀ i, i < n → sf_Pt c xk xa ykd ynu ysz i) (hs : sf_Cps c xcp xfi xse yce yfi yse yrw ywi) (hH : sf_H ykd n = 1) (hto : to < 6) (hp1 : sf_id p) (hq1 : sf_id q) (hl0 : l0 ≤ 6) (hl1 : l1 ≤ 6) (hl2 : l2 ≤ 6) (h1 : 1 ≤ l1) (h2 : 1 ≤ l2)
    (P : ∀ yat yva, wpY_countRoom (fun r => post r (0, 0, 0, yrk, yrw, ywi, yfm, sf_C ykd ynu ysz xa xcp xfi xse yce n to l1 l2 p q (l0 * l1 * l2), ykd, ynu, ysz, yva, yfi, yse, yat, ysp)) (0, 0, 0, yrk, yrw, ywi, yfm, sf_C ykd ynu ysz xa xcp xfi xse yce n to l1 l2 p q (l0 * l1 * l2), ykd, ynu, ysz, yva, yfi, yse, yat, ysp) (nI to)) :
    ∃ m, wY_assign_239 post (nI to) p q (nI l0) (nI l1) (nI l2) m 0 (nI n) yA yD yrk yrw ywi yfm yce ykd ynu ysz yva yfi yse yat ysp := by
  have hT : l0 * l1 * l2 ≤ 216 := Nat.mul_le_mul (Nat.mul_le_mul hl0 hl1) hl2
  have e0 : nI l0 * nI l1 * nI l2 = nI (l0 * l1 * l2) := by rw [pk_mul, pk_mul]
  refine pk_loop (fun m N (s : (Nat → Int32) × (Nat → Int32)) => wY_assign_239 post (nI to) p q (nI l0) (nI l1) (nI l2) m (nI N) (nI n) yA yD yrk yrw ywi yfm (sf_C ykd ynu ysz xa xcp xfi xse yce n to l1 l2 p q N) ykd ynu ysz s.2 yfi yse s.1 ysp) (fun _ _ => True) (l0 * l1 * l2) 0 (yat, yva) (by omega) trivial (fun m s _ => br_t (by rw [e0]; exact nI_le (by omega) (by omega)) (P s.1 s.2)) (fun m N s hN _ k => ?_)
  exact sy_add_step hn hc hp (sf_Cps_cg hc hs (fun j g1 g2 => sf_C_o hp1 hq1 hl0 hl1 hl2 h1 h2 (by omega) j (by omega)) (fun _ _ => rfl) (fun _ _ => rfl)) hH hto hp1 hq1 hl0 hl1 hl2 h1 h2 hT hN (fun yat' yva' => k (yat', yva') trivial)
/-- the cells after shape -/
def sf_y0 (to : Nat) (yce : Nat → Int32) : Nat → Int32 := fun k => if 36 * to ≤ k ∧ k < 36 * to + 36 then 0 else yce k
theorem sf_y0_in {to : Nat} {yce : Nat → Int32} {i : Nat} (h : i < 36) : sf_y0 to yce (36 * to + i) = 0 := if_pos ⟨by omega, by omega⟩
theorem sf_y0_out {to : Nat} {yce : Nat → Int32} {k : Nat} (h : k < 36 * to ∨ 36 * to + 36 ≤ k) : sf_y0 to yce k = yce k := if_neg (by omega)
theorem sf_y0_eq {to : Nat} {yce B : Nat → Int32} (h : sf_blk (36 * to) 36 (fun _ => 0) yce B) : B = sf_y0 to yce := by
  funext k
  by_cases z : 36 * to ≤ k ∧ k < 36 * to + 36
  · obtain ⟨i, rfl⟩ : ∃ i, k = 36 * to + i := ⟨k - 36 * to, by omega⟩
    rw [h.1 i (by omega), sf_y0_in (by omega)]
  · rw [h.2 k (by omega), sf_y0_out (by omega)]
theorem sf_y0_blk (to : Nat) (yce : Nat → Int32) : sf_blk (36 * to) 36 (fun _ => 0) yce (sf_y0 to yce) := ⟨fun i hi => sf_y0_in hi, fun k hk => sf_y0_out hk⟩
/-- an index that is asked for, but does not stand in the formula -/
def sf_ms (xsp : Nat → Int32) (p : Int32) : Prop := ∃ e : Nat, e < 3 ∧ p = nI e ∧ xsp e = 0
theorem sx_ms {xsp : Nat → Int32} {p : Int32} {G N : Prop} (hp : sf_id p) (n : sf_ms xsp p → N) (g : ¬ sf_ms xsp p → G) : (p = -1 → G) ∧ (¬ p = -1 → vp_in p 18 ∧ ((xsp p.toNatClampNeg = 0 → N) ∧ (¬ xsp p.toNatClampNeg = 0 → G))) := by
  rcases hp with rfl | ⟨e, he, rfl⟩
  · exact br_t rfl (g (fun ⟨e, he, z, _⟩ => sf_m1n he z.symm))
  · have ce : (nI e).toNatClampNeg = e := nI_clamp (by omega)
    rw [ce]
    refine br_f (sf_m1n he) ⟨vp_in_nI (by omega) (by decide), br_c (fun z => n ⟨e, he, rfl, z⟩) (fun z => g (fun ⟨e', he', y1, y2⟩ => z ?_))⟩
    have : e = e' := (nI_eq (by omega) (by omega)).mp y1
    rw [this]
    exact y2
theorem sy_ms {post : Int32 → Prop} {yP yA yD : Int32} {yrk yrw ywi yfm yce ykd ynu ysz yva yfi yse yat ysp : Nat → Int32} {xsp : Nat → Int32} {p : Int32} (hB : ∀ t, t < 3 → ysp t = xsp t) (hp : sf_id p) (n : sf_ms xsp p → post 1) (g : ¬ sf_ms xsp p → post 0) : wpY_isMissing post (yP, yA, yD, yrk, yrw, ywi, yfm, yce, ykd, ynu, ysz, yva, yfi, yse, yat, ysp) p := by
  rcases hp with rfl | ⟨e, he, rfl⟩
  · exact br_t (by decide) (g (fun ⟨e, he, z, _⟩ => sf_m1n he z.symm))
  · have ce : (nI e).toNatClampNeg = e := nI_clamp (by omega)
    unfold wpY_isMissing
    dsimp only
    rw [ce, hB e he]
    refine br_f (nI_pos (by omega)) ⟨vp_in_nI he (by decide), br_c (fun z => n ⟨e, he, rfl, z⟩) (fun z => g (fun ⟨e', he', y1, y2⟩ => z ?_))⟩
    have : e = e' := (nI_eq (by omega) (by omega)).mp y1
    rw [this]
    exact y2
def sf_rk2 (p q : Int32) : Nat := if p = -1 then 0 else if q = -1 then 1 else 2
theorem sf_rk2_le (p q : Int32) : sf_rk2 p q ≤ 2 := by
  unfold sf_rk2
  split
  · omega
  · split <;> omega
theorem sf_ix_rk {k : Nat} {p q : Int32} (h : sf_ix k p q) : sf_rk2 p q = k := by
  unfold sf_rk2
  rcases h with ⟨rfl, rfl, rfl⟩ | ⟨rfl, ⟨a, ha, rfl⟩, rfl⟩ | ⟨rfl, a, b, ha, hb, hab, rfl, rfl⟩
  · rw [if_pos rfl]
  · rw [if_neg (sf_m1n ha), if_pos rfl]
  · rw [if_neg (sf_m1n ha), if_neg (sf_m1n hb)]
theorem sx_rk {post : Int32 → SX → Prop} {xP xD xC : Int32} {xrk xrw xcl xfm xnm xk xa xcp xfi xse xsp xin xva : Nat → Int32} {v1 p q v4 : Int32} (h : wX_assign_19 post v1 p q v4 (nI (sf_rk2 p q)) xP xD xC xrk xrw xcl xfm xnm xk xa xcp xfi xse xsp xin xva) : wpX_assign post (xP, xD, xC, xrk, xrw, xcl, xfm, xnm, xk, xa, xcp, xfi, xse, xsp, xin, xva) v1 p q v4 := by
  unfold sf_rk2 at h
  refine br_c (fun z => ?_) (fun z => br_c (fun z2 => ?_) (fun z2 => ?_))
  · rw [if_pos z] at h; exact h
  · rw [if_neg z, if_pos z2] at h; exact h
  · rw [if_neg z, if_neg z2] at h; exact h
/-- the reference's checks of register and indices -/
theorem sy_as_gen {post : Int32 → SY → Prop} {yP yA yD : Int32} {yrk yrw ywi yfm yce ykd ynu ysz yva yfi yse yat ysp : Nat → Int32} {to : Nat} {p q v4 : Int32} (hto : to < 6) (bad : ¬ sf_ix (sf_rk2 p q) p q → post (-1000000001) (yP, yA, yD, yrk, yrw, ywi, yfm, yce, ykd, ynu, ysz, yva, yfi, yse, yat, ysp)) (good : sf_ix (sf_rk2 p q) p q → wY_assign_60 post (nI to) p q v4 (nI (sf_rk2 p q)) yP yA yD yrk yrw ywi yfm yce ykd ynu ysz yva yfi yse yat ysp) : wpY_assign post (yP, yA, yD, yrk, yrw, ywi, yfm, yce, ykd, ynu, ysz, yva, yfi, yse, yat, ysp) (nI to) p q v4 := by
  have m1 : ¬ (0 : Int32) ≤ -1 := by decide
  have m2 : (-1 : Int32) < 0 := by decide
  by_cases hp : sf_id p
  · by_cases hq : sf_id q
    · rcases sf_ge0 hp with ⟨rfl, z⟩ | ⟨a, ha, rfl, z⟩
      · rcases sf_ge0 hq with ⟨rfl, y⟩ | ⟨b, hb, rfl, y⟩
        · exact br_f m1 (sy_reg_t hto (br_f (by decide) (sy_idx_t hp (br_f (by decide) (sy_idx_t hq (br_f (by decide) (br_t m2 (br_t rfl (br_f m1 (good (Or.inl ⟨rfl, rfl, rfl⟩)))))))))))
        · have er : sf_rk2 (-1) (nI b) = 0 := if_pos rfl
          rw [er] at bad
          refine br_f m1 (sy_reg_t hto (br_f (by decide) (sy_idx_t hp (br_f (by decide) (sy_idx_t hq (br_f (by decide) (br_f (nI_pos (by omega)) (br_t m2 (bad ?_)))))))))
          rintro (⟨_, _, w⟩ | ⟨w, _⟩ | ⟨w, _⟩)
          · exact sf_m1n hb w
          · omega
          · omega
      · have hn : ¬ nI a < 0 := nI_pos (by omega)
        rcases sf_ge0 hq with ⟨rfl, y⟩ | ⟨b, hb, rfl, y⟩
        · have er : sf_rk2 (nI a) (-1) = 1 := by unfold sf_rk2; rw [if_neg (sf_m1n ha), if_pos rfl]
          rw [er] at good
          exact br_t z (br_f m1 (sy_reg_t hto (br_f (by decide) (sy_idx_t hp (br_f (by decide) (sy_idx_t hq (br_f (by decide) (br_t m2 (br_f (sf_m1n ha) (good (Or.inr (Or.inl ⟨rfl, ⟨a, ha, rfl⟩, rfl⟩))))))))))))
        · have hn2 : ¬ nI b < 0 := nI_pos (by omega)
          have er : sf_rk2 (nI a) (nI b) = 2 := by unfold sf_rk2; rw [if_neg (sf_m1n ha), if_neg (sf_m1n hb)]
          rw [er] at good bad
          refine br_t z (br_t y (sy_reg_t hto (br_f (by decide) (sy_idx_t hp (br_f (by decide) (sy_idx_t hq (br_f (by decide) (br_f hn2 (br_f hn (br_c (fun w => br_t z (bad ?_)) (fun w => good (Or.inr (Or.inr ⟨rfl, a, b, ha, hb, fun x => w (by rw [x]), rfl, rfl⟩)))))))))))))
          rintro (⟨x, _⟩ | ⟨x, _⟩ | ⟨_, a', b', ha', hb', hab, y1, y2⟩)
          · omega
          · omega
          · rw [y1, y2] at w
            exact hab ((nI_eq (by omega) (by omega)).mp w)
    · have H : ∀ z, wY_assign_17 post (nI to) p q v4 z yP yA yD yrk yrw ywi yfm yce ykd ynu ysz yva yfi yse yat ysp := fun z => sy_reg_t hto (br_f (by decide) (sy_idx_t hp (br_f (by decide) (sy_idx_f hq (br_t rfl (bad (fun z => hq (sf_ix_id z).2.1)))))))
      exact br_c (fun _ => br_c (fun _ => H _) (fun _ => H _)) (fun _ => H _)
  · have H : ∀ z, wY_assign_17 post (nI to) p q v4 z yP yA yD yrk yrw ywi yfm yce ykd ynu ysz yva yfi yse yat ysp := fun z => sy_reg_t hto (br_f (by decide) (sy_idx_f hp (br_t rfl (bad (fun z => hp (sf_ix_id z).1)))))
    exact br_c (fun _ => br_c (fun _ => H _) (fun _ => H _)) (fun _ => H _)
end
section
def sf_l (s : Nat) : Nat := if s = 0 then 1 else s
theorem sf_l_in {s : Nat} (h : s ≤ 6) : 1 ≤ sf_l s ∧ sf_l s ≤ 6 := by
  unfold sf_l
  split <;> omega
theorem sf_l_ne {s : Nat} (h : s ≠ 0) : sf_l s = s := if_neg h
theorem sf_l_step {Q : Int32 → Prop} {x : Int32} {s : Nat} (e : x = nI s) (hs : s ≤ 6) (h : Q (nI (sf_l s))) : (x = 0 → Q 1) ∧ (¬ x = 0 → Q x) := by
  subst e
  by_cases z : s = 0
  · subst z
    exact br_t rfl h
  · rw [sf_l_ne z] at h
    exact br_f (nI_ne0 (by omega) (by omega)) h
theorem sf_l_stepE {Q : Int32 → Prop} {x : Int32} {s : Nat} (e : x = nI s) (hs : s ≤ 6) (h : Q (nI (sf_l s))) : (x = 0 → Q 1) ∧ (¬ x = 0 → ∀ y, y = x → Q y) := by
  subst e
  by_cases z : s = 0
  · subst z
    exact br_t rfl h
  · rw [sf_l_ne z] at h
    exact br_f (nI_ne0 (by omega) (by omega)) (nm_e h)
theorem sf_nms {xsp : Nat → Int32} {e s : Nat} (h : ¬ sf_ms xsp (nI e)) (he : e < 3) (hs : xsp e = nI s) : s ≠ 0 := by
  intro z
  apply h
  refine ⟨e, he, rfl, ?_⟩
  rw [hs, z]
  rfl
theorem sx_hg {Q : Int32 → Prop} {xsp : Nat → Int32} {sp : Nat → Nat} {p : Int32} (hp : sf_id p) (hsp : ∀ t, t < 3 → xsp t = nI (sp t)) (np : ¬ sf_ms xsp p) (h : Q (nI (sf_l (sf_at p sp)))) : (p = -1 → Q 1) ∧ (¬ p = -1 → vp_in p 18 ∧ Q (xsp p.toNatClampNeg)) := by
  rcases hp with rfl | ⟨e, he, rfl⟩
  · rw [sf_at_n] at h
    exact br_t rfl h
  · rw [sf_at_p sp he, sf_l_ne (sf_nms np he (hsp e he))] at h
    refine br_f (sf_m1n he) ⟨vp_in_nI (by omega) (by decide), ?_⟩
    rw [nI_clamp (by omega), hsp e he]
    exact h
theorem sy_hg {Q : Int32 → Prop} {ysp : Nat → Int32} {sp : Nat → Nat} {p : Int32} (hp : sf_id p) (hsp : ∀ t, t < 3 → ysp t = nI (sp t)) (h : Q (nI (sf_at p sp))) : (0 ≤ p → vp_in p 3 ∧ Q (ysp p.toNatClampNeg)) ∧ (¬ 0 ≤ p → Q 0) := by
  rcases sf_ge0 hp with ⟨rfl, z⟩ | ⟨e, he, rfl, z⟩
  · rw [sf_at_n] at h
    exact br_f z h
  · rw [sf_at_p sp he] at h
    refine br_t z ⟨vp_in_nI he (by decide), ?_⟩
    rw [nI_clamp (by omega), hsp e he]
    exact h
theorem sf_hw {k : Nat} {p q : Int32} {xsp : Nat → Int32} {sp : Nat → Nat} (hsp : ∀ t, t < 3 → xsp t = nI (sp t)) (h6 : ∀ t, t < 3 → sp t ≤ 6) (ix : sf_ix k p q) (np : ¬ sf_ms xsp p) (nq : ¬ sf_ms xsp q) : sf_at p sp ≤ 6 ∧ sf_at q sp ≤ 6 ∧ (sf_at p sp = 0 → sf_at q sp = 0) ∧ sf_rk (sf_at p sp) (sf_at q sp) = k := by
  rcases ix with ⟨rfl, rfl, rfl⟩ | ⟨rfl, ⟨a, ha, rfl⟩, rfl⟩ | ⟨rfl, a, b, ha, hb, hab, rfl, rfl⟩
  · rw [sf_at_n]
    exact ⟨by omega, by omega, fun e => e, rfl⟩
  · have z := sf_nms np ha (hsp a ha)
    have := h6 a ha
    rw [sf_at_n, sf_at_p sp ha]
    refine ⟨this, by omega, fun _ => rfl, ?_⟩
    unfold sf_rk
    rw [if_neg z, if_pos rfl]
  · have z := sf_nms np ha (hsp a ha)
    have z2 := sf_nms nq hb (hsp b hb)
    have := h6 a ha
    have := h6 b hb
    rw [sf_at_p sp ha, sf_at_p sp hb]
    refine ⟨by omega, by omega, fun y => absurd y z, ?_⟩
    unfold sf_rk
    rw [if_neg z, if_neg z2]
theorem sf_hpl {p : Int32} {xsp : Nat → Int32} {sp tt : Nat → Nat} (hp : sf_id p) (hsp : ∀ t, t < 3 → xsp t = nI (sp t)) (np : ¬ sf_ms xsp p) (ht : ∀ t, t < 3 → tt t < sf_l (sp t)) : sf_at p tt < sf_l (sf_at p sp) := by
  rcases hp with rfl | ⟨e, he, rfl⟩
  · rw [sf_at_n, sf_at_n]
    exact Nat.one_pos
  · rw [sf_at_p tt he, sf_at_p sp he]
    exact ht e he
theorem sf_nm1 {s : Nat} (h : s ≤ 6) : ¬ nI s = -1 := by
  have H : ∀ s, s < 7 → ¬ nI s = -1 := by decide
  exact H s (by omega)
theorem sx_addUp {post : SX → Prop} {xP xD xC : Int32} {xrk xrw xcl xfm xnm xk xa xcp xfi xse xsp xin xva : Nat → Int32} {sp : Nat → Nat} {to : Nat} {p q : Int32} (hsp : ∀ t, t < 3 → xsp t = nI (sp t)) (h6 : ∀ t, t < 3 → sp t ≤ 6) (h : ∃ m, wX_addUpFormula_66 post (nI to) p q (nI (sf_l (sp 0))) (nI (sf_l (sp 1))) (nI (sf_l (sp 2))) m 0 xP xD xC xrk xrw xcl xfm xnm xk xa xcp xfi xse xsp xin xva) : wpX_addUpFormula post (xP, xD, xC, xrk, xrw, xcl, xfm, xnm, xk, xa, xcp, xfi, xse, xsp, xin, xva) (nI to) p q := by
  refine sf_l_step (Q := fun z => wX_addUpFormula_19 post (nI to) p q z xP xD xC xrk xrw xcl xfm xnm xk xa xcp xfi xse xsp xin xva) (hsp 0 (by omega)) (h6 0 (by omega)) ?_
  refine sf_l_step (Q := fun z => wX_addUpFormula_40 post (nI to) p q (nI (sf_l (sp 0))) z xP xD xC xrk xrw xcl xfm xnm xk xa xcp xfi xse xsp xin xva) (hsp 1 (by omega)) (h6 1 (by omega)) ?_
  exact sf_l_stepE (Q := fun z => ∃ m, wX_addUpFormula_66 post (nI to) p q (nI (sf_l (sp 0))) (nI (sf_l (sp 1))) z m 0 xP xD xC xrk xrw xcl xfm xnm xk xa xcp xfi xse xsp xin xva) (hsp 2 (by omega)) (h6 2 (by omega)) h
/-- the component's assign, once it has passed its checks -/
theorem sx_as_ok {post : Int32 → SX → Prop} {xD xC : Int32} {xrk xrw xcl xfm xnm xk xa xcp xfi xse xsp xin xva : Nat → Int32} {n c to k j : Nat} {p q : Int32} {sp : Nat → Nat} {yce ykd ynu ysz yfi yse yrw ywi : Nat → Int32} (hn : n ≤ 20) (hc : c ≤ 6) (hp : ∀ i, i < n → sf_Pt c xk xa ykd ynu ysz i) (hs : sf_Cps c xcp xfi xse yce yfi yse yrw ywi) (hH : sf_H ykd n = 1) (hto : to < 6) (ix : sf_ix k p q) (hsp : ∀ t, t < 3 → xsp t = nI (sp t)) (h6 : ∀ t, t < 3 → sp t ≤ 6) (np : ¬ sf_ms xsp p) (nq : ¬ sf_ms xsp q) (hag : ∀ i, i < 216 → xnm i = yce i)
    (K : ∀ A xin xva, (∀ i, i < 216 → A i = sf_C ykd ynu ysz xa xcp xfi xse (sf_y0 to yce) n to (sf_l (sp 1)) (sf_l (sp 2)) p q (sf_l (sp 0) * sf_l (sp 1) * sf_l (sp 2)) i) → wpX_countRoom (fun r => post r (0, 0, 0, upd xrk to (nI k), upd xrw to (nI (sf_l (sf_at p sp))), upd xcl to (nI (sf_l (sf_at q sp))), upd xfm to (nI j), A, xk, xa, xcp, xfi, xse, xsp, xin, xva)) (0, 0, 0, upd xrk to (nI k), upd xrw to (nI (sf_l (sf_at p sp))), upd xcl to (nI (sf_l (sf_at q sp))), upd xfm to (nI j), A, xk, xa, xcp, xfi, xse, xsp, xin, xva) (nI to)) :
    wX_assign_93 post (nI to) p q (nI j) (nI k) (nI n) xD xC xrk xrw xcl xfm xnm xk xa xcp xfi xse xsp xin xva := by
  obtain ⟨hid1, hid2, _⟩ := sf_ix_id ix
  have l0 := sf_l_in (h6 0 (by omega))
  have l1 := sf_l_in (h6 1 (by omega))
  have l2 := sf_l_in (h6 2 (by omega))
  have Q158 : wX_assign_158 post (nI to) p q (nI j) (nI k) (nI (sf_l (sf_at p sp))) (nI (sf_l (sf_at q sp))) (nI n) xD xC xrk xrw xcl xfm xnm xk xa xcp xfi xse xsp xin xva := by
    refine sx_shape hto _ _ _ _ (fun A hA => ?_)
    dsimp only
    refine sx_addUp hsp h6 (sx_add66 (y0 := sf_y0 to yce) hn hc hp hs hH hto hid1 hid2 l0.2 l1.2 l2.2 (sf_blk_eq hA (sf_y0_blk to yce) hag) (fun A' xin' xva' hA' => ?_))
    exact K A' xin' xva' hA'
  refine br_f ?_ (br_f ?_ (br_f ?_ ?_))
  · rw [hsp 0 (by omega)]; exact sf_nm1 (h6 0 (by omega))
  · rw [hsp 1 (by omega)]; exact sf_nm1 (h6 1 (by omega))
  · rw [hsp 2 (by omega)]; exact sf_nm1 (h6 2 (by omega))
  · refine sx_hg (Q := fun z => wX_assign_141 post (nI to) p q (nI j) (nI k) z (nI n) xD xC xrk xrw xcl xfm xnm xk xa xcp xfi xse xsp xin xva) hid1 hsp np ?_
    exact sx_hg (Q := fun z => wX_assign_158 post (nI to) p q (nI j) (nI k) (nI (sf_l (sf_at p sp))) z (nI n) xD xC xrk xrw xcl xfm xnm xk xa xcp xfi xse xsp xin xva) hid2 hsp nq Q158
end
section
theorem sy_spn {n c : Nat} {xk xa xcp xfi xse xsp yce ykd ynu ysz yfi yse yrw ywi B : Nat → Int32} (hB : ∀ p, p < 3 → B p = (if (1 : Nat) = 0 then 0 else xsp (3 * (1 - 1) + p))) : ∀ t, t < 3 → B t = xsp t := by
  intro t ht
  rw [hB t ht, if_neg (by omega), show 3 * (1 - 1) + t = t by omega]
/-- the reference's assign, once it has passed its checks -/
theorem sy_as_ok {post : Int32 → SY → Prop} {yA : Int32} {yrk yrw ywi yfm yce ykd ynu ysz yva yfi yse yat ysp : Nat → Int32} {n c to k j : Nat} {p q : Int32} {sp : Nat → Nat} {xk xa xcp xfi xse xsp : Nat → Int32} (F : sf_Form n c 1 xk xa xcp xfi xse xsp yce ykd ynu ysz yfi yse yrw ywi) (hto : to < 6) (ix : sf_ix k p q) (hk : k ≤ 2) (hj : j ≤ sf_fm k) (hsp : ∀ t, t < 3 → xsp t = nI (sp t)) (h6 : ∀ t, t < 3 → sp t ≤ 6) (np : ¬ sf_ms xsp p) (nq : ¬ sf_ms xsp q)
    (K : ∀ ysp yat yva, wpY_countRoom (fun r => post r (0, 0, 0, upd yrk to (nI k), upd yrw to (nI (sf_l (sf_at p sp))), upd ywi to (nI (sf_l (sf_at q sp))), upd yfm to (nI j), sf_C ykd ynu ysz xa xcp xfi xse (sf_y0 to yce) n to (sf_l (sp 1)) (sf_l (sp 2)) p q (sf_l (sp 0) * sf_l (sp 1) * sf_l (sp 2)), ykd, ynu, ysz, yva, yfi, yse, yat, ysp)) (0, 0, 0, upd yrk to (nI k), upd yrw to (nI (sf_l (sf_at p sp))), upd ywi to (nI (sf_l (sf_at q sp))), upd yfm to (nI j), sf_C ykd ynu ysz xa xcp xfi xse (sf_y0 to yce) n to (sf_l (sp 1)) (sf_l (sp 2)) p q (sf_l (sp 0) * sf_l (sp 1) * sf_l (sp 2)), ykd, ynu, ysz, yva, yfi, yse, yat, ysp) (nI to)) :
    wY_assign_60 post (nI to) p q (nI j) (nI k) (nI n) yA (nI 1) yrk yrw ywi yfm yce ykd ynu ysz yva yfi yse yat ysp := by
  obtain ⟨hid1, hid2, _⟩ := sf_ix_id ix
  have l0 := sf_l_in (h6 0 (by omega))
  have l1 := sf_l_in (h6 1 (by omega))
  have l2 := sf_l_in (h6 2 (by omega))
  obtain ⟨w1, w2, w3, w4⟩ := sf_hw hsp h6 ix np nq
  have F' := F
  obtain ⟨f1, f2, f3, f4, f5, f6, f7⟩ := F
  unfold wY_assign_60
  dsimp only
  refine sy_fmt_t hk hj (br_f (by decide) (br_t rfl (sy_find F' (fun B hB => ?_))))
  have hB' : ∀ t, t < 3 → B t = xsp t := sy_spn (n := n) (c := c) (xk := xk) (xa := xa) (xcp := xcp) (xfi := xfi) (xse := xse) (yce := yce) (ykd := ykd) (ynu := ynu) (ysz := ysz) (yfi := yfi) (yse := yse) (yrw := yrw) (ywi := ywi) hB
  have hBs : ∀ t, t < 3 → B t = nI (sp t) := fun t ht => (hB' t ht).trans (hsp t ht)
  dsimp only
  refine sy_ms hB' hid1 (fun z => absurd z np) (fun _ => br_t rfl (sy_ms hB' hid2 (fun z => absurd z nq) (fun _ => br_t rfl ?_)))
  have Q168 : wY_assign_168 post (nI to) p q (nI j) (nI (sf_at q sp)) (nI (sf_at p sp)) (nI to) (nI n) yA (nI 1) yrk yrw ywi yfm yce ykd ynu ysz yva yfi yse yat B := by
    refine sy_shapeN (by omega) w1 w2 (fun C hC => ?_)
    have eC := sf_y0_eq hC
    subst eC
    rw [w4]
    dsimp only
    refine sf_l_step (Q := fun z => wY_assign_192 post (nI to) p q z (nI n) yA (nI 1) (upd yrk to (nI k)) (upd yrw to (nI (sf_l (sf_at p sp)))) (upd ywi to (nI (sf_l (sf_at q sp)))) (upd yfm to (nI j)) (sf_y0 to yce) ykd ynu ysz yva yfi yse yat B) (hBs 0 (by omega)) (h6 0 (by omega)) ?_
    refine sf_l_step (Q := fun z => wY_assign_213 post (nI to) p q (nI (sf_l (sp 0))) z (nI n) yA (nI 1) (upd yrk to (nI k)) (upd yrw to (nI (sf_l (sf_at p sp)))) (upd ywi to (nI (sf_l (sf_at q sp)))) (upd yfm to (nI j)) (sf_y0 to yce) ykd ynu ysz yva yfi yse yat B) (hBs 1 (by omega)) (h6 1 (by omega)) ?_
    refine sf_l_stepE (Q := fun z => ∃ m, wY_assign_239 post (nI to) p q (nI (sf_l (sp 0))) (nI (sf_l (sp 1))) z m 0 (nI n) yA (nI 1) (upd yrk to (nI k)) (upd yrw to (nI (sf_l (sf_at p sp)))) (upd ywi to (nI (sf_l (sf_at q sp)))) (upd yfm to (nI j)) (sf_y0 to yce) ykd ynu ysz yva yfi yse yat B) (hBs 2 (by omega)) (h6 2 (by omega)) ?_
    exact sy_add239 f1 f2 f5 (sf_Cps_cg f2 f6 (fun i g1 g2 => sf_y0_out (by omega)) (fun a ha => pk_un (by omega)) (fun a ha => pk_un (by omega))) f4 hto hid1 hid2 l0.2 l1.2 l2.2 l1.1 l2.1 (fun yat yva => K B yat yva)
  refine br_f ?_ (br_f ?_ (br_t ?_ ?_))
  · rw [hBs 0 (by omega)]; exact nI_pos (by have := h6 0 (by omega); omega)
  · rw [hBs 1 (by omega)]; exact nI_pos (by have := h6 1 (by omega); omega)
  · rw [hBs 2 (by omega)]; exact nI_pos' (by have := h6 2 (by omega); omega)
  · refine sy_hg (Q := fun z => wY_assign_154 post (nI to) p q (nI j) z (nI to) (nI n) yA (nI 1) yrk yrw ywi yfm yce ykd ynu ysz yva yfi yse yat B) hid1 hBs ?_
    exact sy_hg (Q := fun z => wY_assign_168 post (nI to) p q (nI j) z (nI (sf_at p sp)) (nI to) (nI n) yA (nI 1) yrk yrw ywi yfm yce ykd ynu ysz yva yfi yse yat B) hid2 hBs Q168
end
section
theorem i_vc_assign {k : Nat} {u : SX} {v : SY} (I : i_Rel k u v) (hk : k + 5 ≤ 2560) (v1 : Int32) (v2 : Int32) (v3 : Int32) (v4 : Int32) : wpX_assign (fun r u' => wpY_assign (fun r' v' => r' = r ∧ i_Rel (k + 5) u' v') v v1 v2 v3 v4) u v1 v2 v3 v4 := by
  obtain ⟨xP, xD, xC, xrk, xrw, xcl, xfm, xnm, xk, xa, xcp, xfi, xse, xsp, xin, xva⟩ := u
  obtain ⟨yP, yA, yD, yrk, yrw, ywi, yfm, yce, ykd, ynu, ysz, yva, yfi, yse, yat, ysp⟩ := v
  have I0 := I
  obtain ⟨n, c, d, ⟨rfl, rfl, rfl, rfl, rfl, rfl⟩, G, F⟩ := I
  have F' := F
  obtain ⟨f1, f2, f3, f4, f5, f6, f7⟩ := F
  have hk2 := sf_rk2_le v2 v3
  refine sx_rk ?_
  unfold wX_assign_19
  dsimp only
  by_cases hr : sf_rg v1
  · obtain ⟨to, hto, rfl⟩ := hr
    by_cases hix : sf_ix (sf_rk2 v2 v3) v2 v3
    · obtain ⟨hid1, hid2, _⟩ := sf_ix_id hix
      by_cases hf : sf_fg (sf_rk2 v2 v3) v4
      · obtain ⟨j, hj, rfl⟩ := hf
        by_cases hd : d = 1
        · subst hd
          refine sx_reg_t hto (br_f (by decide) (sx_ix_t hix (br_f (by decide) (sx_fmt_t hk2 hj (br_f (by decide) (br_t rfl ?_))))))
          have YF : ∀ (post : Int32 → SY → Prop), (∀ B : Nat → Int32, (∀ t, t < 3 → B t = xsp t) → wpY_isMissing (fun r_95 => (r_95 = 0 → wpY_isMissing (fun r_113 => (r_113 = 0 → (B 0 < 0 → post (-1000000005) (nI n, nI c, nI 1, yrk, yrw, ywi, yfm, yce, ykd, ynu, ysz, yva, yfi, yse, yat, B)) ∧ (¬ B 0 < 0 → (B 1 < 0 → post (-1000000005) (nI n, nI c, nI 1, yrk, yrw, ywi, yfm, yce, ykd, ynu, ysz, yva, yfi, yse, yat, B)) ∧ (¬ B 1 < 0 → (0 ≤ B 2 → ((0 ≤ v2 → vp_in v2 3 ∧ wY_assign_154 post (nI to) v2 v3 (nI j) (B v2.toNatClampNeg) (nI to) (nI n) (nI c) (nI 1) yrk yrw ywi yfm yce ykd ynu ysz yva yfi yse yat B) ∧ (¬ 0 ≤ v2 → wY_assign_154 post (nI to) v2 v3 (nI j) 0 (nI to) (nI n) (nI c) (nI 1) yrk yrw ywi yfm yce ykd ynu ysz yva yfi yse yat B))) ∧ (¬ 0 ≤ B 2 → post (-1000000005) (nI n, nI c, nI 1, yrk, yrw, ywi, yfm, yce, ykd, ynu, ysz, yva, yfi, yse, yat, B))))) ∧ (¬ r_113 = 0 → post (-1000000004) (nI n, nI c, nI 1, yrk, yrw, ywi, yfm, yce, ykd, ynu, ysz, yva, yfi, yse, yat, B))) (nI n, nI c, nI 1, yrk, yrw, ywi, yfm, yce, ykd, ynu, ysz, yva, yfi, yse, yat, B) v3) ∧ (¬ r_95 = 0 → post (-1000000004) (nI n, nI c, nI 1, yrk, yrw, ywi, yfm, yce, ykd, ynu, ysz, yva, yfi, yse, yat, B))) (nI n, nI c, nI 1, yrk, yrw, ywi, yfm, yce, ykd, ynu, ysz, yva, yfi, yse, yat, B) v2) → wpY_assign post (nI n, nI c, nI 1, yrk, yrw, ywi, yfm, yce, ykd, ynu, ysz, yva, yfi, yse, yat, ysp) (nI to) v2 v3 (nI j) := by
            intro post P
            refine sy_as_gen hto (fun z => absurd hix z) (fun _ => ?_)
            unfold wY_assign_60
            dsimp only
            refine sy_fmt_t hk2 hj (br_f (by decide) (br_t rfl (sy_find F' (fun B hB => ?_))))
            exact P B (sy_spn (n := n) (c := c) (xk := xk) (xa := xa) (xcp := xcp) (xfi := xfi) (xse := xse) (yce := yce) (ykd := ykd) (ynu := ynu) (ysz := ysz) (yfi := yfi) (yse := yse) (yrw := yrw) (ywi := ywi) hB)
          refine sx_ms hid1 (fun m1 => ?_) (fun m1 => sx_ms hid2 (fun m2 => ?_) (fun m2 => ?_))
          · exact YF _ (fun B hB => sy_ms hB hid1 (fun _ => br_f (by decide) ⟨rfl, sf_mk G F'⟩) (fun z => absurd m1 z))
          · exact YF _ (fun B hB => sy_ms hB hid1 (fun z => absurd z m1) (fun _ => br_t rfl (sy_ms hB hid2 (fun _ => br_f (by decide) ⟨rfl, sf_mk G F'⟩) (fun z => absurd m2 z))))
          · have hok : ∀ t, t < 3 → sf_ok (xsp t) := by
              intro t ht
              have := sf_top_ok F' (by omega) t ht
              rw [show 3 * (1 - 1) + t = t by omega] at this
              exact this
            by_cases hneg : ∃ t, t < 3 ∧ xsp t = -1
            · have YM : wpY_assign (fun r' v' => r' = -1000000005 ∧ i_Rel (k + 5) (nI n, nI 1, nI c, xrk, xrw, xcl, xfm, xnm, xk, xa, xcp, xfi, xse, xsp, xin, xva) v') (nI n, nI c, nI 1, yrk, yrw, ywi, yfm, yce, ykd, ynu, ysz, yva, yfi, yse, yat, ysp) (nI to) v2 v3 (nI j) := by
                refine YF _ (fun B hB => sy_ms hB hid1 (fun z => absurd z m1) (fun _ => br_t rfl (sy_ms hB hid2 (fun z => absurd z m2) (fun _ => br_t rfl ?_))))
                refine br_c (fun _ => ⟨rfl, sf_mk G F'⟩) (fun z0 => br_c (fun _ => ⟨rfl, sf_mk G F'⟩) (fun z1 => br_c (fun z2 => ?_) (fun _ => ⟨rfl, sf_mk G F'⟩)))
                obtain ⟨t, ht, e⟩ := hneg
                exfalso
                rw [hB 0 (by omega)] at z0
                rw [hB 1 (by omega)] at z1
                rw [hB 2 (by omega)] at z2
                match t, ht, e with
                | 0, _, e => rw [e] at z0; exact z0 (by decide)
                | 1, _, e => rw [e] at z1; exact z1 (by decide)
                | 2, _, e => rw [e] at z2; exact absurd z2 (by decide)
              refine br_c (fun _ => YM) (fun z0 => br_c (fun _ => YM) (fun z1 => br_c (fun _ => YM) (fun z2 => ?_)))
              obtain ⟨t, ht, e⟩ := hneg
              exfalso
              match t, ht, e with
              | 0, _, e => exact z0 e
              | 1, _, e => exact z1 e
              | 2, _, e => exact z2 e
            · have hall : ∀ t, t < 3 → xsp t = nI (xsp t).toNatClampNeg ∧ (xsp t).toNatClampNeg ≤ 6 := by
                intro t ht
                rcases hok t ht with z | ⟨s, hs, z⟩
                · exact absurd ⟨t, ht, z⟩ hneg
                · rw [z, nI_clamp (by omega)]
                  exact ⟨rfl, hs⟩
              have hsp : ∀ t, t < 3 → xsp t = nI ((fun t => (xsp t).toNatClampNeg) t) := fun t ht => (hall t ht).1
              have h6 : ∀ t, t < 3 → (fun t => (xsp t).toNatClampNeg) t ≤ 6 := fun t ht => (hall t ht).2
              generalize (fun t => (xsp t).toNatClampNeg) = sp at hsp h6
              have l0 := sf_l_in (h6 0 (by omega))
              have l1 := sf_l_in (h6 1 (by omega))
              have l2 := sf_l_in (h6 2 (by omega))
              obtain ⟨w1, w2, w3, w4⟩ := sf_hw hsp h6 hix m1 m2
              have wl1 := sf_l_in w1
              have wl2 := sf_l_in w2
              have S' : sf_Sh (sf_rk2 v2 v3) (sf_l (sf_at v2 sp)) (sf_l (sf_at v3 sp)) j := by
                have := sf_Sh_mk (j := j) w1 w2 w3 (by rw [w4]; exact hj)
                rw [w4] at this
                exact this
              refine sx_as_ok f1 f2 f5 f6 f4 hto hix hsp h6 m1 m2 G.2.1 (fun A xin xva hA => sx_room hto pk_us pk_us pk_us pk_us S' ?_)
              have O : sf_Out (sf_l (sf_at v2 sp)) (sf_l (sf_at v3 sp)) (fun i => sf_C ykd ynu ysz xa xcp xfi xse (sf_y0 to yce) n to (sf_l (sp 1)) (sf_l (sp 2)) v2 v3 (sf_l (sp 0) * sf_l (sp 1) * sf_l (sp 2)) (36 * to + i)) := by
                refine sf_cel_O wl2.2 (fun i j hi hj _ => sf_y0_in (by omega)) _ (fun M hM => ?_)
                obtain ⟨t0, t1, t2⟩ := sf_tt_lt (l0 := sf_l (sp 0)) (N := M) (by omega) (by omega) hM
                have ht : ∀ t, t < 3 → sf_tt (sf_l (sp 1)) (sf_l (sp 2)) M t < sf_l (sp t) := sf_3 t0 t1 t2
                exact ⟨_, _, sf_hpl hid1 hsp m1 ht, sf_hpl hid2 hsp m2 ht, rfl⟩
              refine sy_as_gen hto (fun z => absurd hix z) (fun _ => sy_as_ok F' hto hix hk2 hj hsp h6 m1 m2 (fun ysp yat yva => sy_room hto pk_us pk_us pk_us pk_us S' O ⟨?_, ?_⟩))
              · exact sf_roomv_cg wl1.2 wl2.2 (fun i hi => (hA (36 * to + i) (by omega)).symm)
              · refine sf_mk (n := 0) (c := 0) (d := 0) (sf_Regs_upd hto G (fun s _ z => sf_up8 s z) hA (fun i hi hz => ?_) (sf_rk2 v2 v3) (sf_l (sf_at v2 sp)) (sf_l (sf_at v3 sp)) j ⟨pk_us, pk_us, pk_us, pk_us, pk_us, pk_us, pk_us, pk_us⟩ S' O) (sf_Form_0 _ _ _ _ _ _ _ _ _ _ _ _ _ _)
                rw [sf_C_o hid1 hid2 l0.2 l1.2 l2.2 l1.1 l2.1 (Nat.le_refl _) i hz, sf_y0_out hz]
        · have hd' : ¬ nI d = 1 := fun y => hd ((nI_eq (b := 1) (by omega) (by decide)).mp y)
          refine sx_reg_t hto (br_f (by decide) (sx_ix_t hix (br_f (by decide) (sx_fmt_t hk2 hj (br_f (by decide) (br_f hd' ?_))))))
          refine sy_as_gen hto (fun z => absurd hix z) (fun _ => ?_)
          unfold wY_assign_60
          dsimp only
          exact sy_fmt_t hk2 hj (br_f (by decide) (br_f hd' ⟨rfl, I0⟩))
      · refine sx_reg_t hto (br_f (by decide) (sx_ix_t hix (br_f (by decide) (sx_fmt_f hk2 hf (br_t rfl ?_)))))
        exact sy_as_gen hto (fun z => absurd hix z) (fun _ => sy_fmt_f hk2 hf (br_t rfl ⟨rfl, I0⟩))
    · refine sx_reg_t hto (br_f (by decide) (sx_ix_f hk2 hix (br_t rfl ?_)))
      exact sy_as_gen hto (fun _ => ⟨rfl, I0⟩) (fun z => absurd z hix)
  · refine sx_reg_f hr (br_t rfl ?_)
    have H : ∀ z, wY_assign_17 (fun r' v' => r' = -1000000001 ∧ i_Rel (k + 5) (nI n, nI d, nI c, xrk, xrw, xcl, xfm, xnm, xk, xa, xcp, xfi, xse, xsp, xin, xva) v') v1 v2 v3 v4 z (nI n) (nI c) (nI d) yrk yrw ywi yfm yce ykd ynu ysz yva yfi yse yat ysp := fun z => sy_reg_f hr (br_t rfl ⟨rfl, I0⟩)
    exact br_c (fun _ => br_c (fun _ => H _) (fun _ => H _)) (fun _ => H _)
end
