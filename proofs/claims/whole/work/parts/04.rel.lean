/-- a register's face: rank, rows, columns, format -/
def sf_Sh (k h w f : Nat) : Prop := 1 ≤ h ∧ h ≤ 6 ∧ 1 ≤ w ∧ w ≤ 6 ∧ ((k = 0 ∧ h = 1 ∧ w = 1 ∧ f = 0) ∨ (k = 1 ∧ w = 1 ∧ f ≤ 1) ∨ (k = 2 ∧ f ≤ 7))
def sf_Out (h w : Nat) (g : Nat → Int32) : Prop := ∀ i j, i < 6 → j < 6 → (h ≤ i ∨ w ≤ j) → g (6 * i + j) = 0
def sf_Reg (rk rw cl fm ce : Nat → Int32) (r : Nat) : Prop :=
  ∃ k h w f : Nat, rk r = nI k ∧ rw r = nI h ∧ cl r = nI w ∧ fm r = nI f ∧ sf_Sh k h w f ∧ sf_Out h w (fun i => ce (36 * r + i))
def sf_Regs (xrk xrw xcl xfm xnm yrk yrw ywi yfm yce : Nat → Int32) : Prop :=
  (∀ r, r < 6 → xrk r = yrk r ∧ xrw r = yrw r ∧ xcl r = ywi r ∧ xfm r = yfm r) ∧ (∀ k, k < 216 → xnm k = yce k) ∧ (∀ r, r < 6 → sf_Reg yrk yrw ywi yfm yce r)
/-- an index: none or one of three -/
def sf_id (x : Int32) : Prop := x = -1 ∨ ∃ p : Nat, p < 3 ∧ x = nI p
def sf_ln (x : Int32) : Prop := ∃ h : Nat, 1 ≤ h ∧ h ≤ 6 ∧ x = nI h
/-- what part i gives to index p -/
def sf_cb (kd nu fi se ro wi : Nat → Int32) (p i : Nat) : Int32 :=
  if kd i = 1 then (if fi (nu i).toNatClampNeg = nI p then ro (nu i).toNatClampNeg else if se (nu i).toNatClampNeg = nI p then wi (nu i).toNatClampNeg else 0) else 0
def sf_Cps (c : Nat) (xcp xfi xse yce yfi yse yrw ywi : Nat → Int32) : Prop :=
  ∀ a, a < c → (∀ k, k < 36 → xcp (36 * a + k) = yce (216 + 36 * a + k)) ∧ xfi a = yfi (6 + a) ∧ xse a = yse (6 + a) ∧ sf_id (yfi (6 + a)) ∧ sf_id (yse (6 + a)) ∧ (yfi (6 + a) = yse (6 + a) → yfi (6 + a) = -1) ∧ sf_ln (yrw (6 + a)) ∧ sf_ln (ywi (6 + a))
def sf_Pt (c : Nat) (xk xa ykd ynu ysz : Nat → Int32) (i : Nat) : Prop :=
  sf_ar (ykd i) ≤ sf_H ykd i ∧ sf_H ykd (i + 1) ≤ 6 ∧ ysz i = nI (i + 1 - sf_E ykd (i + 1) (sf_H ykd (i + 1) - 1)) ∧
  ((ykd i = 0 ∧ xk i = 3 ∧ xa i = ynu i) ∨ (ykd i = 1 ∧ xk i = 4 ∧ ∃ a : Nat, a < c ∧ xa i = nI a ∧ ynu i = nI (6 + a)) ∨ (ykd i = 2 ∧ xk i = 5) ∨ (∃ t : Nat, t < 3 ∧ ykd i = nI (3 + t) ∧ xk i = nI t))
def sf_Sps (n d : Nat) (xsp ykd ynu yfi yse yrw ywi : Nat → Int32) : Prop :=
  ∀ k p, k < d → p < 3 → xsp (3 * k + p) = sf_fs (sf_cb ykd ynu yfi yse yrw ywi p) (sf_E ykd n k) (sf_E ykd n (k + 1) - sf_E ykd n k)
def sf_Form (n c d : Nat) (xk xa xcp xfi xse xsp yce ykd ynu ysz yfi yse yrw ywi : Nat → Int32) : Prop :=
  n ≤ 20 ∧ c ≤ 6 ∧ d ≤ 6 ∧ sf_H ykd n = d ∧ (∀ i, i < n → sf_Pt c xk xa ykd ynu ysz i) ∧ sf_Cps c xcp xfi xse yce yfi yse yrw ywi ∧ sf_Sps n d xsp ykd ynu yfi yse yrw ywi
theorem sf_Form_0 (xk xa xcp xfi xse xsp yce ykd ynu ysz yfi yse yrw ywi : Nat → Int32) : sf_Form 0 0 0 xk xa xcp xfi xse xsp yce ykd ynu ysz yfi yse yrw ywi :=
  ⟨by omega, by omega, by omega, rfl, fun i h => absurd h (Nat.not_lt_zero i), fun i h => absurd h (Nat.not_lt_zero i), fun k p h => absurd h (Nat.not_lt_zero k)⟩
theorem sf_cb_cg {kd nu fi se ro wi kd' nu' fi' se' ro' wi' : Nat → Int32} {p i : Nat} (hk : kd' i = kd i) (hn : nu' i = nu i) (h : kd i = 1 → fi' (nu i).toNatClampNeg = fi (nu i).toNatClampNeg ∧ se' (nu i).toNatClampNeg = se (nu i).toNatClampNeg ∧ ro' (nu i).toNatClampNeg = ro (nu i).toNatClampNeg ∧ wi' (nu i).toNatClampNeg = wi (nu i).toNatClampNeg) : sf_cb kd' nu' fi' se' ro' wi' p i = sf_cb kd nu fi se ro wi p i := by
  unfold sf_cb
  rw [hk, hn]
  by_cases e : kd i = 1
  · obtain ⟨h1, h2, h3, h4⟩ := h e
    rw [h1, h2, h3, h4]
  · rw [if_neg e, if_neg e]
theorem sf_cb_no {kd nu fi se ro wi : Nat → Int32} {p i : Nat} (h : ¬ kd i = 1) : sf_cb kd nu fi se ro wi p i = 0 := if_neg h
/-- an array part points to a copy -/
theorem sf_Pt_a {c : Nat} {xk xa ykd ynu ysz : Nat → Int32} {i : Nat} (h : sf_Pt c xk xa ykd ynu ysz i) (e : ykd i = 1) : xk i = 4 ∧ ∃ a : Nat, a < c ∧ xa i = nI a ∧ ynu i = nI (6 + a) := by
  rcases h.2.2.2 with z | z | z | ⟨t, ht, z, _⟩
  · rw [e] at z; exact absurd z.1 (by decide)
  · exact z.2
  · rw [e] at z; exact absurd z.1 (by decide)
  · rw [e] at z
    have : ∀ t, t < 3 → ¬ (1 : Int32) = nI (3 + t) := by decide
    exact absurd z (this t ht)
/-- the formulas stand when only registers, or scratch, change -/
theorem sf_Form_cg {n c d : Nat} {xk xa xcp xfi xse xsp yce ykd ynu ysz yfi yse yrw ywi yce' yrw' ywi' : Nat → Int32}
    (h : sf_Form n c d xk xa xcp xfi xse xsp yce ykd ynu ysz yfi yse yrw ywi)
    (h1 : ∀ k, 216 ≤ k → k < 432 → yce' k = yce k) (h2 : ∀ a, 6 ≤ a → a < 12 → yrw' a = yrw a) (h3 : ∀ a, 6 ≤ a → a < 12 → ywi' a = ywi a) :
    sf_Form n c d xk xa xcp xfi xse xsp yce' ykd ynu ysz yfi yse yrw' ywi' := by
  obtain ⟨a1, a2, a3, a4, a5, a6, a7⟩ := h
  refine ⟨a1, a2, a3, a4, a5, fun a ha => ?_, fun k p hk hp => ?_⟩
  · obtain ⟨b1, b2, b3, b4, b5, b6, b7, b8⟩ := a6 a ha
    refine ⟨fun k hk => ?_, b2, b3, b4, b5, b6, ?_, ?_⟩
    · rw [h1 _ (by omega) (by omega)]; exact b1 k hk
    · rw [h2 _ (by omega) (by omega)]; exact b7
    · rw [h3 _ (by omega) (by omega)]; exact b8
  · rw [a7 k p hk hp]
    apply Eq.symm
    apply sf_fs_cg
    intro i hi1 hi2
    have hn : i < n := by have := sf_E_le ykd n (k + 1); omega
    apply sf_cb_cg rfl rfl
    intro e
    obtain ⟨_, a, ha, _, e2⟩ := sf_Pt_a (a5 i hn) e
    have e3 : (ynu i).toNatClampNeg = 6 + a := by rw [e2]; exact nI_clamp (by omega)
    rw [e3, h2 _ (by omega) (by omega), h3 _ (by omega) (by omega)]
    exact ⟨rfl, rfl, rfl, rfl⟩
theorem sf_cb_ok {n c : Nat} {xk xa xcp xfi xse yce ykd ynu ysz yfi yse yrw ywi : Nat → Int32} (hp : ∀ i, i < n → sf_Pt c xk xa ykd ynu ysz i) (hc : c ≤ 6) (hs : sf_Cps c xcp xfi xse yce yfi yse yrw ywi) (p i : Nat) (hi : i < n) : sf_ok (sf_cb ykd ynu yfi yse yrw ywi p i) := by
  unfold sf_cb
  by_cases e : ykd i = 1
  · rw [if_pos e]
    obtain ⟨_, a, ha, _, e2⟩ := sf_Pt_a (hp i hi) e
    have e3 : (ynu i).toNatClampNeg = 6 + a := by rw [e2]; exact nI_clamp (by omega)
    obtain ⟨_, _, _, _, _, _, ⟨h, h1, h2, h3⟩, w, w1, w2, w3⟩ := hs a ha
    rw [e3]
    by_cases q : yfi (6 + a) = nI p
    · rw [if_pos q]; exact Or.inr ⟨h, h2, h3⟩
    · rw [if_neg q]
      by_cases q2 : yse (6 + a) = nI p
      · rw [if_pos q2]; exact Or.inr ⟨w, w2, w3⟩
      · rw [if_neg q2]; exact sf_ok_0
  · rw [if_neg e]; exact sf_ok_0
