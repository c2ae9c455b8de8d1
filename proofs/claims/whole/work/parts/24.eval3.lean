/-- the value of part i, from those before it -/
def sf_sv (kd nu sz xa xcp xfi xse : Nat → Int32) (tt : Nat → Nat) (z : Nat → Int32) (i : Nat) : Int32 :=
  if kd i = 0 then nu i else if kd i = 1 then xcp (36 * (xa i).toNatClampNeg + (6 * sf_at (xfi (xa i).toNatClampNeg) tt + sf_at (xse (xa i).toNatClampNeg) tt)) else if kd i = 2 then -(z (i - 1)) else sf_op ((kd i).toNatClampNeg - 3) (z (i - 1 - (sz (i - 1)).toNatClampNeg)) (z (i - 1))
def sf_Z (kd nu sz xa xcp xfi xse : Nat → Int32) (tt : Nat → Nat) : Nat → Nat → Int32
  | 0 => fun _ => 0
  | i + 1 => upd (sf_Z kd nu sz xa xcp xfi xse tt i) i (sf_sv kd nu sz xa xcp xfi xse tt (sf_Z kd nu sz xa xcp xfi xse tt i) i)
theorem sf_sv_c {kd nu sz xa xcp xfi xse : Nat → Int32} {tt : Nat → Nat} {z : Nat → Int32} {i : Nat} (h : kd i = 0) : sf_sv kd nu sz xa xcp xfi xse tt z i = nu i := if_pos h
theorem sf_sv_a {kd nu sz xa xcp xfi xse : Nat → Int32} {tt : Nat → Nat} {z : Nat → Int32} {i a : Nat} (h : kd i = 1) (ha : a < 6) (e : xa i = nI a) : sf_sv kd nu sz xa xcp xfi xse tt z i = xcp (36 * a + (6 * sf_at (xfi a) tt + sf_at (xse a) tt)) := by
  unfold sf_sv
  rw [h, if_neg (by decide), if_pos rfl, e, nI_clamp (by omega)]
theorem sf_sv_n {kd nu sz xa xcp xfi xse : Nat → Int32} {tt : Nat → Nat} {z : Nat → Int32} {i : Nat} (h : kd i = 2) : sf_sv kd nu sz xa xcp xfi xse tt z i = -(z (i - 1)) := by
  unfold sf_sv
  rw [h, if_neg (by decide), if_neg (by decide), if_pos rfl]
theorem sf_sv_j {kd nu sz xa xcp xfi xse : Nat → Int32} {tt : Nat → Nat} {z : Nat → Int32} {i t e : Nat} (h : kd i = nI (3 + t)) (ht : t < 3) (he : e < i) (h1 : 1 ≤ e) (hi : i ≤ 20) (hs : sz (i - 1) = nI (i - e)) : sf_sv kd nu sz xa xcp xfi xse tt z i = sf_op t (z (e - 1)) (z (i - 1)) := by
  have n3 : ∀ t, t < 3 → ¬ nI (3 + t) = 0 ∧ ¬ nI (3 + t) = 1 ∧ ¬ nI (3 + t) = 2 := by decide
  obtain ⟨m1, m2, m3⟩ := n3 t ht
  unfold sf_sv
  rw [h, if_neg m1, if_neg m2, if_neg m3, hs, nI_clamp (by omega), nI_clamp (by omega), show 3 + t - 3 = t by omega, show i - 1 - (i - e) = e - 1 by omega]
theorem sx_eval {xD xC : Int32} {xrk xrw xcl xfm xnm xk xa xcp xfi xse xsp xin : Nat → Int32} {n c : Nat} {yce ykd ynu ysz yfi yse yrw ywi : Nat → Int32} (tt : Nat → Nat) (hx : ∀ t, t < 3 → xin t = nI (tt t)) (h6 : ∀ t, t < 3 → tt t < 6) (hn : n ≤ 20) (hc : c ≤ 6) (hp : ∀ i, i < n → sf_Pt c xk xa ykd ynu ysz i) (hs : sf_Cps c xcp xfi xse yce yfi yse yrw ywi) (hH : sf_H ykd n = 1) (post : Int32 → SX → Prop) (P : ∀ xva, post (sf_Z ykd ynu ysz xa xcp xfi xse tt n (n - 1)) (nI n, xD, xC, xrk, xrw, xcl, xfm, xnm, xk, xa, xcp, xfi, xse, xsp, xin, xva)) :
    ∀ dd i : Nat, i + dd = n → ∀ xva : Nat → Int32, sf_V ykd i xva (sf_Z ykd ynu ysz xa xcp xfi xse tt i) → wX_formulaValue_4 post (nI n) xD xC (dd + 1) (nI (sf_H ykd i)) (nI i) xrk xrw xcl xfm xnm xk xa xcp xfi xse xsp xin xva := by
  intro dd
  induction dd with
  | zero =>
    intro i hi xva hV
    have hi' : i = n := by omega
    subst hi'
    have hi0 : i ≠ 0 := fun y => by rw [y, sf_H_0] at hH; omega
    have et := sf_V_top hV (by omega)
    rw [hH] at et
    refine br_t (nI_le (by omega) (by omega)) ?_
    rw [show xva 0 = _ from et]
    exact P xva
  | succ dd ih =>
    intro i hi xva hV
    obtain ⟨q1, q2, q3, q4⟩ := hp i (by omega)
    have eH := sf_H_s ykd i
    have hH6 : sf_H ykd i ≤ 6 := sf_H6 hp (by omega)
    have hV' := sf_V_s hV q1 (sf_sv ykd ynu ysz xa xcp xfi xse tt (sf_Z ykd ynu ysz xa xcp xfi xse tt i) i)
    have K := ih (i + 1) (by omega) _ hV'
    rcases q4 with ⟨k1, k2, k3⟩ | ⟨k1, k2, a, ha, k3, k4⟩ | ⟨k1, k2⟩ | ⟨t, ht, k1, k2⟩
    · have ea : sf_ar (ykd i) = 0 := by rw [k1]; rfl
      rw [ea] at eH
      rw [eH, ea, sf_sv_c k1, ← k3] at K
      exact sx_ev_c (by omega) hn (by omega) k2 K
    · have ea : sf_ar (ykd i) = 0 := by rw [k1]; rfl
      obtain ⟨b1, b2, b3, b4, b5, b6, b7, b8⟩ := hs a ha
      rw [ea] at eH
      rw [eH, ea, sf_sv_a k1 (by omega) k3] at K
      exact sx_ev_a tt hx h6 (by omega) hn (by omega) k2 k3 (by omega) (by rw [b2]; exact b4) (by rw [b3]; exact b5) K
    · have ea : sf_ar (ykd i) = 1 := by rw [k1]; rfl
      rw [ea] at q1 eH
      rw [eH, ea, sf_sv_n k1, Nat.add_sub_cancel, ← sf_V_top hV q1] at K
      exact sx_ev_n (by omega) hn q1 hH6 k2 K
    · have ea : sf_ar (ykd i) = 2 := by rw [k1]; exact sf_ar3 t ht
      rw [ea] at q1 eH
      obtain ⟨g1, g2, g3, g4⟩ := sf_szi hp (i := i) (by omega) q1
      rw [eH, ea, sf_sv_j k1 ht g3 g2 (by omega) g4, ← sf_V_top hV (by omega), ← sf_V_2 hV q1, show sf_H ykd i + 1 - 2 = sf_H ykd i - 1 by omega] at K
      exact sx_ev_j (by omega) hn q1 hH6 ht k2 K
theorem sf_Z_keep {kd nu sz xa xcp xfi xse : Nat → Int32} {tt : Nat → Nat} {i : Nat} {yva : Nat → Int32} (h : ∀ j, j < i → yva j = sf_Z kd nu sz xa xcp xfi xse tt i j) : ∀ j, j < i + 1 → upd yva i (sf_sv kd nu sz xa xcp xfi xse tt (sf_Z kd nu sz xa xcp xfi xse tt i) i) j = sf_Z kd nu sz xa xcp xfi xse tt (i + 1) j := by
  intro j hj
  show _ = upd (sf_Z kd nu sz xa xcp xfi xse tt i) i _ j
  by_cases z : j = i
  · rw [z, pk_us, pk_us]
  · rw [pk_un z, pk_un z]
    exact h j (by omega)
theorem sy_eval {yA yD : Int32} {yrk yrw ywi yfm yce ykd ynu ysz yfi yse yat ysp : Nat → Int32} {n c : Nat} {xk xa xcp xfi xse : Nat → Int32} (tt : Nat → Nat) (hy : ∀ t, t < 3 → yat t = nI (tt t)) (h6 : ∀ t, t < 3 → tt t < 6) (hn : n ≤ 20) (hc : c ≤ 6) (hp : ∀ i, i < n → sf_Pt c xk xa ykd ynu ysz i) (hs : sf_Cps c xcp xfi xse yce yfi yse yrw ywi) (hH : sf_H ykd n = 1) (post : Int32 → SY → Prop) (P : ∀ yva, post (sf_Z ykd ynu ysz xa xcp xfi xse tt n (n - 1)) (nI n, yA, yD, yrk, yrw, ywi, yfm, yce, ykd, ynu, ysz, yva, yfi, yse, yat, ysp)) :
    ∀ dd i : Nat, i + dd = n → ∀ yva : Nat → Int32, (∀ j, j < i → yva j = sf_Z ykd ynu ysz xa xcp xfi xse tt i j) → wY_workOut_2 post (nI n) yA yD (dd + 1) (nI i) yrk yrw ywi yfm yce ykd ynu ysz yva yfi yse yat ysp := by
  intro dd
  induction dd with
  | zero =>
    intro i hi yva hV
    have hi' : i = n := by omega
    subst hi'
    have hi0 : i ≠ 0 := fun y => by rw [y, sf_H_0] at hH; omega
    have e1 : nI i - 1 = nI (i - 1) := pk_sub (b := 1) (by omega)
    refine br_t (nI_le (by omega) (by omega)) ?_
    rw [e1, nI_clamp (by omega), hV (i - 1) (by omega)]
    exact ⟨vp_in_nI (by omega) (by decide), P yva⟩
  | succ dd ih =>
    intro i hi yva hV
    obtain ⟨q1, q2, q3, q4⟩ := hp i (by omega)
    have hi1 : 1 ≤ sf_H ykd i → 1 ≤ i := fun y => by
      cases i with
      | zero => rw [sf_H_0] at y; omega
      | succ i => omega
    have K := ih (i + 1) (by omega) _ (sf_Z_keep hV)
    rcases q4 with ⟨k1, k2, k3⟩ | ⟨k1, k2, a, ha, k3, k4⟩ | ⟨k1, k2⟩ | ⟨t, ht, k1, k2⟩
    · rw [sf_sv_c k1] at K
      exact sy_ev_c (by omega) hn k1 K
    · obtain ⟨b1, b2, b3, b4, b5, b6, b7, b8⟩ := hs a ha
      have l1 := sf_at_lt b4 h6
      have l2 := sf_at_lt b5 h6
      rw [sf_sv_a k1 (by omega) k3, b2, b3, b1 _ (by omega), show 216 + 36 * a + (6 * sf_at (yfi (6 + a)) tt + sf_at (yse (6 + a)) tt) = 36 * (6 + a) + (6 * sf_at (yfi (6 + a)) tt + sf_at (yse (6 + a)) tt) by omega] at K
      exact sy_ev_a tt hy h6 (by omega) hn k1 k4 (by omega) b4 b5 K
    · have ea : sf_ar (ykd i) = 1 := by rw [k1]; rfl
      rw [ea] at q1
      have := hi1 q1
      rw [sf_sv_n k1, ← hV (i - 1) (by omega)] at K
      exact sy_ev_n (by omega) hn this k1 K
    · have ea : sf_ar (ykd i) = 2 := by rw [k1]; exact sf_ar3 t ht
      rw [ea] at q1
      obtain ⟨g1, g2, g3, g4⟩ := sf_szi hp (i := i) (by omega) q1
      rw [sf_sv_j k1 ht g3 g2 (by omega) g4, ← hV (i - 1) (by omega), ← hV (sf_E ykd i (sf_H ykd i - 1) - 1) (by omega)] at K
      exact sy_ev_j (by omega) hn g2 g3 g4 ht k1 K
