theorem sy_ev_c {post : Int32 → SY → Prop} {yA yD : Int32} {yrk yrw ywi yfm yce ykd ynu ysz yva yfi yse yat ysp : Nat → Int32} {n i m : Nat} (hi : i < n) (hn : n ≤ 20) (ek : ykd i = 0) (K : wY_workOut_2 post (nI n) yA yD m (nI (i + 1)) yrk yrw ywi yfm yce ykd ynu ysz (upd yva i (ynu i)) yfi yse yat ysp) : wY_workOut_2 post (nI n) yA yD (m + 1) (nI i) yrk yrw ywi yfm yce ykd ynu ysz yva yfi yse yat ysp := by
  have vi : vp_in (nI i) 20 := vp_in_nI (by omega) (by decide)
  have ci : (nI i).toNatClampNeg = i := nI_clamp (by omega)
  exact br_f (nI_ge hi (by omega)) ⟨vi, nm_r (e' := 0) (by rw [ci, ek]) (br_f (by decide) (br_t rfl ⟨vi, vi, nm_r (e' := upd yva i (ynu i)) (by rw [ci]) (nm_r (nI_1 i) K)⟩))⟩
theorem sy_ev_a {post : Int32 → SY → Prop} {yA yD : Int32} {yrk yrw ywi yfm yce ykd ynu ysz yva yfi yse yat ysp : Nat → Int32} {n i m a : Nat} (tt : Nat → Nat) (ht : ∀ t, t < 3 → yat t = nI (tt t)) (h6 : ∀ t, t < 3 → tt t < 6) (hi : i < n) (hn : n ≤ 20) (ek : ykd i = 1) (ea : ynu i = nI a) (ha : a < 13) (hp : sf_id (yfi a)) (hq : sf_id (yse a)) (K : wY_workOut_2 post (nI n) yA yD m (nI (i + 1)) yrk yrw ywi yfm yce ykd ynu ysz (upd yva i (yce (36 * a + (6 * sf_at (yfi a) tt + sf_at (yse a) tt)))) yfi yse yat ysp) : wY_workOut_2 post (nI n) yA yD (m + 1) (nI i) yrk yrw ywi yfm yce ykd ynu ysz yva yfi yse yat ysp := by
  have vi : vp_in (nI i) 20 := vp_in_nI (by omega) (by decide)
  have ci : (nI i).toNatClampNeg = i := nI_clamp (by omega)
  refine br_f (nI_ge hi (by omega)) ⟨vi, nm_r (e' := 1) (by rw [ci, ek]) (br_f (by decide) (br_f (by decide) ⟨vi, ?_⟩))⟩
  rw [ci, ea]
  exact sy_num tt ht h6 ha hp hq ⟨vi, nm_e (nm_r (nI_1 i) K)⟩
theorem sy_ev_n {post : Int32 → SY → Prop} {yA yD : Int32} {yrk yrw ywi yfm yce ykd ynu ysz yva yfi yse yat ysp : Nat → Int32} {n i m : Nat} (hi : i < n) (hn : n ≤ 20) (h1 : 1 ≤ i) (ek : ykd i = 2) (K : wY_workOut_2 post (nI n) yA yD m (nI (i + 1)) yrk yrw ywi yfm yce ykd ynu ysz (upd yva i (-(yva (i - 1)))) yfi yse yat ysp) : wY_workOut_2 post (nI n) yA yD (m + 1) (nI i) yrk yrw ywi yfm yce ykd ynu ysz yva yfi yse yat ysp := by
  have vi : vp_in (nI i) 20 := vp_in_nI (by omega) (by decide)
  have ci : (nI i).toNatClampNeg = i := nI_clamp (by omega)
  have e1 : nI i - 1 = nI (i - 1) := pk_sub (b := 1) h1
  exact br_f (nI_ge hi (by omega)) ⟨vi, nm_r (e' := 2) (by rw [ci, ek]) (br_t (by decide) (br_t rfl ⟨by rw [e1]; exact vp_in_nI (by omega) (by decide), vi, nm_r (e' := upd yva i (-(yva (i - 1)))) (by rw [ci, e1, nI_clamp (by omega)]) (nm_r (nI_1 i) K)⟩))⟩
theorem sy_ev_j {post : Int32 → SY → Prop} {yA yD : Int32} {yrk yrw ywi yfm yce ykd ynu ysz yva yfi yse yat ysp : Nat → Int32} {n i m t e : Nat} (hi : i < n) (hn : n ≤ 20) (h1 : 1 ≤ e) (he : e < i) (hs : ysz (i - 1) = nI (i - e)) (ht : t < 3) (ek : ykd i = nI (3 + t)) (K : wY_workOut_2 post (nI n) yA yD m (nI (i + 1)) yrk yrw ywi yfm yce ykd ynu ysz (upd yva i (sf_op t (yva (e - 1)) (yva (i - 1)))) yfi yse yat ysp) : wY_workOut_2 post (nI n) yA yD (m + 1) (nI i) yrk yrw ywi yfm yce ykd ynu ysz yva yfi yse yat ysp := by
  have vi : vp_in (nI i) 20 := vp_in_nI (by omega) (by decide)
  have ci : (nI i).toNatClampNeg = i := nI_clamp (by omega)
  have e1 : nI i - 1 = nI (i - 1) := pk_sub (b := 1) (by omega)
  have c1 : (nI (i - 1)).toNatClampNeg = i - 1 := nI_clamp (by omega)
  have e2 : nI (i - 1) - nI (i - e) = nI (e - 1) := by
    rw [pk_sub (by omega)]
    exact congrArg nI (by omega)
  have c2 : (nI (e - 1)).toNatClampNeg = e - 1 := nI_clamp (by omega)
  have v1 : vp_in (nI (i - 1)) 20 := vp_in_nI (by omega) (by decide)
  have v2 : vp_in (nI (e - 1)) 20 := vp_in_nI (by omega) (by decide)
  have n3 : ∀ t, t < 3 → ¬ nI (3 + t) = 2 ∧ 2 ≤ nI (3 + t) := by decide
  obtain ⟨m1, m2⟩ := n3 t ht
  refine br_f (nI_ge hi (by omega)) ⟨vi, nm_r (e' := nI (3 + t)) (by rw [ci, ek]) (br_t m2 (br_f m1 ?_))⟩
  rw [e1, c1, hs, e2, c2, ci]
  refine ⟨v1, v2, nm_e ⟨v1, nm_e ?_⟩⟩
  match t, ht, K with
  | 0, _, K => exact br_t rfl ⟨vi, nm_e (nm_r (nI_1 i) K)⟩
  | 1, _, K => exact br_f (by decide) (br_t rfl ⟨vi, nm_e (nm_r (nI_1 i) K)⟩)
  | 2, _, K => exact br_f (by decide) (br_f (by decide) ⟨vi, nm_e (nm_r (nI_1 i) K)⟩)
