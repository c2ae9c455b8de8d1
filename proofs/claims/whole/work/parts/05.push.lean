theorem sf_Pt_cg {c c' : Nat} {xk xa ykd ynu ysz xk' xa' ykd' ynu' ysz' : Nat → Int32} {i : Nat} (h : sf_Pt c xk xa ykd ynu ysz i) (hc : c ≤ c') (hk : ∀ j, j < i + 1 → ykd' j = ykd j) (h1 : xk' i = xk i) (h2 : xa' i = xa i) (h3 : ynu' i = ynu i) (h4 : ysz' i = ysz i) : sf_Pt c' xk' xa' ykd' ynu' ysz' i := by
  obtain ⟨a1, a2, a3, a4⟩ := h
  have eH : sf_H ykd' i = sf_H ykd i := sf_H_cg i (fun j hj => hk j (by omega))
  have eH1 : sf_H ykd' (i + 1) = sf_H ykd (i + 1) := sf_H_cg (i + 1) hk
  have eE : ∀ k, sf_E ykd' (i + 1) k = sf_E ykd (i + 1) k := sf_E_cg (i + 1) hk
  have ek : ykd' i = ykd i := hk i (by omega)
  refine ⟨by rw [ek, eH]; exact a1, by rw [eH1]; exact a2, by rw [h4, eH1, eE]; exact a3, ?_⟩
  rw [ek, h1, h2, h3]
  rcases a4 with z | ⟨z1, z2, a, ha, z3⟩ | z | z
  · exact Or.inl z
  · exact Or.inr (Or.inl ⟨z1, z2, a, by omega, z3⟩)
  · exact Or.inr (Or.inr (Or.inl z))
  · exact Or.inr (Or.inr (Or.inr z))
theorem sf_push {n c c' d : Nat} {xk xa xcp xfi xse xsp yce ykd ynu ysz yfi yse yrw ywi xk' xa' xcp' xfi' xse' xsp' yce' ykd' ynu' ysz' yfi' yse' yrw' ywi' : Nat → Int32} {t : Nat}
    (h : sf_Form n c d xk xa xcp xfi xse xsp yce ykd ynu ysz yfi yse yrw ywi) (hn : n < 20) (hc : c ≤ c') (hc' : c' ≤ 6)
    (ht : sf_ar (ykd' n) = t) (htd : t ≤ d) (hd : d + 1 - t ≤ 6)
    (hkd : ∀ j, j < n → ykd' j = ykd j) (hxk : ∀ j, j < n → xk' j = xk j) (hxa : ∀ j, j < n → xa' j = xa j) (hnu : ∀ j, j < n → ynu' j = ynu j) (hsz : ∀ j, j < n → ysz' j = ysz j)
    (hs : ysz' n = nI (n + 1 - sf_E ykd n (d - t)))
    (hcase : (ykd' n = 0 ∧ xk' n = 3 ∧ xa' n = ynu' n) ∨ (ykd' n = 1 ∧ xk' n = 4 ∧ ∃ a : Nat, a < c' ∧ xa' n = nI a ∧ ynu' n = nI (6 + a)) ∨ (ykd' n = 2 ∧ xk' n = 5) ∨ (∃ t : Nat, t < 3 ∧ ykd' n = nI (3 + t) ∧ xk' n = nI t))
    (hcps : sf_Cps c' xcp' xfi' xse' yce' yfi' yse' yrw' ywi')
    (hold : ∀ a, a < c → yfi' (6 + a) = yfi (6 + a) ∧ yse' (6 + a) = yse (6 + a) ∧ yrw' (6 + a) = yrw (6 + a) ∧ ywi' (6 + a) = ywi (6 + a))
    (hsp : ∀ k p, k < d - t → p < 3 → xsp' (3 * k + p) = xsp (3 * k + p))
    (htop : ∀ p, p < 3 → xsp' (3 * (d - t) + p) = sf_cs (sf_fs (sf_cb ykd ynu yfi yse yrw ywi p) (sf_E ykd n (d - t)) (n - sf_E ykd n (d - t))) (sf_cb ykd' ynu' yfi' yse' yrw' ywi' p n)) :
    sf_Form (n + 1) c' (d + 1 - t) xk' xa' xcp' xfi' xse' xsp' yce' ykd' ynu' ysz' yfi' yse' yrw' ywi' := by
  obtain ⟨a1, a2, a3, a4, a5, a6, a7⟩ := h
  have eHn : sf_H ykd' n = d := by rw [sf_H_cg n hkd, a4]
  have eH : sf_H ykd' (n + 1) = d + 1 - t := by rw [sf_H_s, eHn, ht]
  have eE : ∀ k, sf_E ykd' n k = sf_E ykd n k := sf_E_cg n hkd
  have ecb : ∀ p i, i < n → sf_cb ykd' ynu' yfi' yse' yrw' ywi' p i = sf_cb ykd ynu yfi yse yrw ywi p i := by
    intro p i hi
    apply sf_cb_cg (hkd i hi) (hnu i hi)
    intro e
    obtain ⟨_, a, ha, _, e2⟩ := sf_Pt_a (a5 i hi) e
    have e3 : (ynu i).toNatClampNeg = 6 + a := by rw [e2]; exact nI_clamp (by omega)
    rw [e3]
    exact hold a ha
  refine ⟨by omega, hc', hd, eH, fun i hi => ?_, hcps, fun k p hk hp => ?_⟩
  · by_cases e : i = n
    · subst e
      refine ⟨by rw [ht, eHn]; exact htd, by rw [eH]; exact hd, ?_, hcase⟩
      rw [hs, eH, sf_E_lt (by rw [eH]; omega), eE, show d + 1 - t - 1 = d - t by omega]
    · exact sf_Pt_cg (a5 i (by omega)) hc (fun j hj => hkd j (by omega)) (hxk i (by omega)) (hxa i (by omega)) (hnu i (by omega)) (hsz i (by omega))
  · by_cases e : k = d - t
    · subst e
      have hl : sf_E ykd n (d - t) ≤ n := sf_E_le ykd n (d - t)
      rw [htop p hp, sf_E_lt (by rw [eH]; omega), eE, sf_E_ge (by rw [eH]; omega), show n + 1 - sf_E ykd n (d - t) = (n - sf_E ykd n (d - t)) + 1 by omega, sf_fs_s, show sf_E ykd n (d - t) + (n - sf_E ykd n (d - t)) = n by omega]
      rw [sf_fs_cg _ (fun i h1 h2 => ecb p i (by omega))]
    · have hl : sf_E ykd n (k + 1) ≤ n := sf_E_le ykd n (k + 1)
      rw [hsp k p (by omega) hp, a7 k p (by omega) hp, sf_E_lt (by rw [eH]; omega), sf_E_lt (by rw [eH]; omega), eE, eE]
      rw [sf_fs_cg _ (fun i h1 h2 => ecb p i (by omega))]
theorem sf_n0 {n c d : Nat} {xk xa xcp xfi xse xsp yce ykd ynu ysz yfi yse yrw ywi : Nat → Int32} (h : sf_Form n c d xk xa xcp xfi xse xsp yce ykd ynu ysz yfi yse yrw ywi) : n = 0 ↔ d = 0 := by
  obtain ⟨a1, a2, a3, a4, a5, a6, a7⟩ := h
  constructor
  · intro e; subst e; rw [← a4]; rfl
  · intro e
    cases n with
    | zero => rfl
    | succ n =>
      have := (a5 n (by omega)).1
      rw [sf_H_s] at a4
      omega
theorem sf_size1 {n c d : Nat} {xk xa xcp xfi xse xsp yce ykd ynu ysz yfi yse yrw ywi : Nat → Int32} (h : sf_Form n c d xk xa xcp xfi xse xsp yce ykd ynu ysz yfi yse yrw ywi) (hd : 1 ≤ d) : 1 ≤ n ∧ sf_E ykd n (d - 1) < n ∧ ysz (n - 1) = nI (n - sf_E ykd n (d - 1)) := by
  have hn : n ≠ 0 := fun e => by have := (sf_n0 h).mp e; omega
  obtain ⟨a1, a2, a3, a4, a5, a6, a7⟩ := h
  have h1 := sf_E_step ykd n (d - 1) (by omega)
  have h2 := sf_E_top ykd n
  rw [a4] at h2
  rw [show d - 1 + 1 = d by omega, h2] at h1
  refine ⟨by omega, h1, ?_⟩
  have := (a5 (n - 1) (by omega)).2.2.1
  rw [show n - 1 + 1 = n by omega, a4] at this
  exact this
theorem sf_size2 {n c d : Nat} {xk xa xcp xfi xse xsp yce ykd ynu ysz yfi yse yrw ywi : Nat → Int32} (h : sf_Form n c d xk xa xcp xfi xse xsp yce ykd ynu ysz yfi yse yrw ywi) (hd : 2 ≤ d) : 1 ≤ sf_E ykd n (d - 1) ∧ sf_E ykd n (d - 2) < sf_E ykd n (d - 1) ∧ ysz (sf_E ykd n (d - 1) - 1) = nI (sf_E ykd n (d - 1) - sf_E ykd n (d - 2)) := by
  obtain ⟨b1, b2, b3⟩ := sf_size1 h (by omega)
  obtain ⟨a1, a2, a3, a4, a5, a6, a7⟩ := h
  have h1 := sf_E_step ykd n (d - 2) (by omega)
  rw [show d - 2 + 1 = d - 1 by omega] at h1
  obtain ⟨c1, c2⟩ := sf_E_back ykd n (d - 1) (by omega)
  have c3 := c2 (d - 2) (by omega)
  refine ⟨by omega, h1, ?_⟩
  have := (a5 (sf_E ykd n (d - 1) - 1) (by omega)).2.2.1
  rw [show sf_E ykd n (d - 1) - 1 + 1 = sf_E ykd n (d - 1) by omega, c1, show d - 1 - 1 = d - 2 by omega, c3] at this
  exact this
/-- what the component keeps of the top formula's lengths -/
theorem sf_top {n c d : Nat} {xk xa xcp xfi xse xsp yce ykd ynu ysz yfi yse yrw ywi : Nat → Int32} (h : sf_Form n c d xk xa xcp xfi xse xsp yce ykd ynu ysz yfi yse yrw ywi) (hd : 1 ≤ d) (p : Nat) (hp : p < 3) : xsp (3 * (d - 1) + p) = sf_fs (sf_cb ykd ynu yfi yse yrw ywi p) (sf_E ykd n (d - 1)) (n - sf_E ykd n (d - 1)) := by
  obtain ⟨a1, a2, a3, a4, a5, a6, a7⟩ := h
  have h2 := sf_E_top ykd n
  rw [a4] at h2
  have := a7 (d - 1) p (by omega) hp
  rw [show d - 1 + 1 = d by omega, h2] at this
  exact this
theorem sf_top2 {n c d : Nat} {xk xa xcp xfi xse xsp yce ykd ynu ysz yfi yse yrw ywi : Nat → Int32} (h : sf_Form n c d xk xa xcp xfi xse xsp yce ykd ynu ysz yfi yse yrw ywi) (hd : 2 ≤ d) (p : Nat) (hp : p < 3) : sf_cs (xsp (3 * (d - 2) + p)) (xsp (3 * (d - 1) + p)) = sf_fs (sf_cb ykd ynu yfi yse yrw ywi p) (sf_E ykd n (d - 2)) (n - sf_E ykd n (d - 2)) := by
  have e1 := sf_top h (by omega) p hp
  obtain ⟨b1, b2, b3⟩ := sf_size1 h (by omega)
  obtain ⟨c1, c2, c3⟩ := sf_size2 h hd
  obtain ⟨a1, a2, a3, a4, a5, a6, a7⟩ := h
  have e2 := a7 (d - 2) p (by omega) hp
  rw [show d - 2 + 1 = d - 1 by omega] at e2
  rw [e1, e2, show n - sf_E ykd n (d - 2) = (sf_E ykd n (d - 1) - sf_E ykd n (d - 2)) + (n - sf_E ykd n (d - 1)) by omega, sf_fs_add, show sf_E ykd n (d - 2) + (sf_E ykd n (d - 1) - sf_E ykd n (d - 2)) = sf_E ykd n (d - 1) by omega]
theorem sf_top_ok {n c d : Nat} {xk xa xcp xfi xse xsp yce ykd ynu ysz yfi yse yrw ywi : Nat → Int32} (h : sf_Form n c d xk xa xcp xfi xse xsp yce ykd ynu ysz yfi yse yrw ywi) (hd : 1 ≤ d) (p : Nat) (hp : p < 3) : sf_ok (xsp (3 * (d - 1) + p)) := by
  rw [sf_top h hd p hp]
  have hl : sf_E ykd n (d - 1) ≤ n := sf_E_le ykd n (d - 1)
  obtain ⟨a1, a2, a3, a4, a5, a6, a7⟩ := h
  exact sf_ok_fs _ (fun i h1 h2 => sf_cb_ok a5 a2 a6 p i (by omega))
