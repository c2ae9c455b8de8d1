theorem sx_place15 {post : Int32 → Prop} {xP xD xC : Int32} {xrk xrw xcl xfm xnm xk xa xcp xfi xse xsp xin xva : Nat → Int32} {q : Int32} {a : Nat} (tt : Nat → Nat) (ht : ∀ t, t < 3 → xin t = nI (tt t)) (hq : sf_id q) (P : post (nI (6 * a + sf_at q tt))) : wX_placeAt_15 post q (nI a) xP xD xC xrk xrw xcl xfm xnm xk xa xcp xfi xse xsp xin xva := by
  rcases hq with rfl | ⟨b, hb, rfl⟩
  · rw [sf_at_n] at P
    refine br_t rfl ?_
    have e : nI a * 6 + 0 = nI (6 * a + 0) := sf_6a a 0
    rw [e]
    exact P
  · rw [sf_at_p tt hb] at P
    refine br_f (sf_m1n hb) ⟨vp_in_nI hb (by decide), nm_r (e' := nI (tt b)) (by rw [nI_clamp (by omega), ht b hb]) ?_⟩
    rw [sf_6a]
    exact P
theorem sx_place {post : Int32 → Prop} {xP xD xC : Int32} {xrk xrw xcl xfm xnm xk xa xcp xfi xse xsp xin xva : Nat → Int32} {p q : Int32} (tt : Nat → Nat) (ht : ∀ t, t < 3 → xin t = nI (tt t)) (hp : sf_id p) (hq : sf_id q) (P : post (nI (6 * sf_at p tt + sf_at q tt))) : wpX_placeAt post (xP, xD, xC, xrk, xrw, xcl, xfm, xnm, xk, xa, xcp, xfi, xse, xsp, xin, xva) p q := by
  rcases hp with rfl | ⟨a, ha, rfl⟩
  · rw [sf_at_n] at P
    exact br_t rfl (sx_place15 (a := 0) tt ht hq P)
  · rw [sf_at_p tt ha] at P
    refine br_f (sf_m1n ha) ⟨vp_in_nI ha (by decide), ?_⟩
    rw [nI_clamp (by omega), ht a ha]
    exact sx_place15 tt ht hq P
theorem sx_copied {post : Int32 → Prop} {xP xD xC : Int32} {xrk xrw xcl xfm xnm xk xa xcp xfi xse xsp xin xva : Nat → Int32} {a : Nat} (tt : Nat → Nat) (ht : ∀ t, t < 3 → xin t = nI (tt t)) (h6 : ∀ t, t < 3 → tt t < 6) (ha : a < 6) (hp : sf_id (xfi a)) (hq : sf_id (xse a)) (P : post (xcp (36 * a + (6 * sf_at (xfi a) tt + sf_at (xse a) tt)))) : wpX_copiedNumber post (xP, xD, xC, xrk, xrw, xcl, xfm, xnm, xk, xa, xcp, xfi, xse, xsp, xin, xva) (nI a) := by
  have va : vp_in (nI a) 6 := vp_in_nI ha (by decide)
  have ca : (nI a).toNatClampNeg = a := nI_clamp (by omega)
  have l1 := sf_at_lt hp h6
  have l2 := sf_at_lt hq h6
  unfold wpX_copiedNumber
  dsimp only
  rw [ca]
  refine ⟨va, va, sx_place tt ht hp hq ?_⟩
  have e : nI a * 36 + nI (6 * sf_at (xfi a) tt + sf_at (xse a) tt) = nI (36 * a + (6 * sf_at (xfi a) tt + sf_at (xse a) tt)) := sf_xp a _
  rw [e, nI_clamp (by omega)]
  exact ⟨vp_in_nI (by omega) (by decide), P⟩
theorem sf_ge0 {p : Int32} (h : sf_id p) : (p = -1 ∧ ¬ 0 ≤ p) ∨ ∃ a : Nat, a < 3 ∧ p = nI a ∧ 0 ≤ p := by
  rcases h with rfl | ⟨a, ha, rfl⟩
  · exact Or.inl ⟨rfl, by decide⟩
  · exact Or.inr ⟨a, ha, rfl, nI_pos' (by omega)⟩
theorem sy_num {post : Int32 → Prop} {yP yA yD : Int32} {yrk yrw ywi yfm yce ykd ynu ysz yva yfi yse yat ysp : Nat → Int32} {a : Nat} (tt : Nat → Nat) (ht : ∀ t, t < 3 → yat t = nI (tt t)) (h6 : ∀ t, t < 3 → tt t < 6) (ha : a < 13) (hp : sf_id (yfi a)) (hq : sf_id (yse a)) (P : post (yce (36 * a + (6 * sf_at (yfi a) tt + sf_at (yse a) tt)))) : wpY_numberIn post (yP, yA, yD, yrk, yrw, ywi, yfm, yce, ykd, ynu, ysz, yva, yfi, yse, yat, ysp) (nI a) := by
  have va : vp_in (nI a) 13 := vp_in_nI ha (by decide)
  have ca : (nI a).toNatClampNeg = a := nI_clamp (by omega)
  have l1 := sf_at_lt hp h6
  have l2 := sf_at_lt hq h6
  have Q49 : wY_numberIn_49 post (nI a) (nI (sf_at (yfi a) tt)) (nI (sf_at (yse a) tt)) yP yA yD yrk yrw ywi yfm yce ykd ynu ysz yva yfi yse yat ysp := by
    unfold wY_numberIn_49
    rw [sf_yi, nI_clamp (by omega), Nat.add_assoc]
    exact ⟨vp_in_nI (by omega) (by decide), P⟩
  have Q24 : wY_numberIn_24 post (nI a) (nI (sf_at (yfi a) tt)) yP yA yD yrk yrw ywi yfm yce ykd ynu ysz yva yfi yse yat ysp := by
    unfold wY_numberIn_24
    rw [ca]
    refine ⟨va, ?_⟩
    rcases sf_ge0 hq with ⟨e, z⟩ | ⟨b, hb, e, z⟩
    · rw [e, sf_at_n] at Q49
      exact br_f z Q49
    · rw [e] at z ⊢
      rw [e, sf_at_p tt hb] at Q49
      rw [nI_clamp (by omega), ht b hb]
      exact br_t z ⟨va, vp_in_nI hb (by decide), Q49⟩
  unfold wpY_numberIn
  dsimp only
  rw [ca]
  refine ⟨va, ?_⟩
  rcases sf_ge0 hp with ⟨e, z⟩ | ⟨b, hb, e, z⟩
  · rw [e, sf_at_n] at Q24
    exact br_f z Q24
  · rw [e] at z ⊢
    rw [e, sf_at_p tt hb] at Q24
    rw [nI_clamp (by omega), ht b hb]
    exact br_t z ⟨va, vp_in_nI hb (by decide), Q24⟩
def sf_op (t : Nat) (x y : Int32) : Int32 := if t = 0 then x + y else if t = 1 then x - y else x * y
theorem sx_joined {post : Int32 → Prop} {t : Nat} {x y : Int32} (ht : t < 3) (P : post (sf_op t x y)) : wpX_joined post (nI t) x y := by
  match t, ht, P with
  | 0, _, P => exact br_t rfl P
  | 1, _, P => exact br_f (by decide) (br_t rfl P)
  | 2, _, P => exact br_f (by decide) (br_f (by decide) P)
theorem sx_ev_c {post : Int32 → SX → Prop} {xD xC : Int32} {xrk xrw xcl xfm xnm xk xa xcp xfi xse xsp xin xva : Nat → Int32} {n i h m : Nat} (hi : i < n) (hn : n ≤ 20) (hh : h < 6) (ek : xk i = 3) (K : wX_formulaValue_4 post (nI n) xD xC m (nI (h + 1)) (nI (i + 1)) xrk xrw xcl xfm xnm xk xa xcp xfi xse xsp xin (upd xva h (xa i))) : wX_formulaValue_4 post (nI n) xD xC (m + 1) (nI h) (nI i) xrk xrw xcl xfm xnm xk xa xcp xfi xse xsp xin xva := by
  have vi : vp_in (nI i) 20 := vp_in_nI (by omega) (by decide)
  have ci : (nI i).toNatClampNeg = i := nI_clamp (by omega)
  have vh : vp_in (nI h) 6 := vp_in_nI hh (by decide)
  have ch : (nI h).toNatClampNeg = h := nI_clamp (by omega)
  exact br_f (nI_ge hi (by omega)) ⟨vi, nm_r (e' := 3) (by rw [ci, ek]) (br_t rfl ⟨vi, vh, nm_r (e' := upd xva h (xa i)) (by rw [ch, ci]) (nm_r (nI_1 h) (nm_r (nI_1 i) K))⟩)⟩
theorem sx_ev_a {post : Int32 → SX → Prop} {xD xC : Int32} {xrk xrw xcl xfm xnm xk xa xcp xfi xse xsp xin xva : Nat → Int32} {n i h m a : Nat} (tt : Nat → Nat) (ht : ∀ t, t < 3 → xin t = nI (tt t)) (h6 : ∀ t, t < 3 → tt t < 6) (hi : i < n) (hn : n ≤ 20) (hh : h < 6) (ek : xk i = 4) (ea : xa i = nI a) (ha : a < 6) (hp : sf_id (xfi a)) (hq : sf_id (xse a)) (K : wX_formulaValue_4 post (nI n) xD xC m (nI (h + 1)) (nI (i + 1)) xrk xrw xcl xfm xnm xk xa xcp xfi xse xsp xin (upd xva h (xcp (36 * a + (6 * sf_at (xfi a) tt + sf_at (xse a) tt))))) : wX_formulaValue_4 post (nI n) xD xC (m + 1) (nI h) (nI i) xrk xrw xcl xfm xnm xk xa xcp xfi xse xsp xin xva := by
  have vi : vp_in (nI i) 20 := vp_in_nI (by omega) (by decide)
  have ci : (nI i).toNatClampNeg = i := nI_clamp (by omega)
  have vh : vp_in (nI h) 6 := vp_in_nI hh (by decide)
  have ch : (nI h).toNatClampNeg = h := nI_clamp (by omega)
  refine br_f (nI_ge hi (by omega)) ⟨vi, nm_r (e' := 4) (by rw [ci, ek]) (br_f (by decide) (br_t rfl ⟨vi, ?_⟩))⟩
  rw [ci, ea]
  exact sx_copied tt ht h6 ha hp hq ⟨vh, nm_r (e' := upd xva h (xcp (36 * a + (6 * sf_at (xfi a) tt + sf_at (xse a) tt)))) (by rw [ch]) (nm_r (nI_1 h) (nm_r (nI_1 i) K))⟩
theorem sx_ev_n {post : Int32 → SX → Prop} {xD xC : Int32} {xrk xrw xcl xfm xnm xk xa xcp xfi xse xsp xin xva : Nat → Int32} {n i h m : Nat} (hi : i < n) (hn : n ≤ 20) (h1 : 1 ≤ h) (hh : h ≤ 6) (ek : xk i = 5) (K : wX_formulaValue_4 post (nI n) xD xC m (nI h) (nI (i + 1)) xrk xrw xcl xfm xnm xk xa xcp xfi xse xsp xin (upd xva (h - 1) (-(xva (h - 1))))) : wX_formulaValue_4 post (nI n) xD xC (m + 1) (nI h) (nI i) xrk xrw xcl xfm xnm xk xa xcp xfi xse xsp xin xva := by
  have vi : vp_in (nI i) 20 := vp_in_nI (by omega) (by decide)
  have ci : (nI i).toNatClampNeg = i := nI_clamp (by omega)
  have eh : nI h - 1 = nI (h - 1) := pk_sub (b := 1) h1
  have vh : vp_in (nI h - 1) 6 := by rw [eh]; exact vp_in_nI (by omega) (by decide)
  exact br_f (nI_ge hi (by omega)) ⟨vi, nm_r (e' := 5) (by rw [ci, ek]) (br_f (by decide) (br_f (by decide) (br_t rfl ⟨vh, vh, nm_r (e' := upd xva (h - 1) (-(xva (h - 1)))) (by rw [eh, nI_clamp (by omega)]) (nm_r (nI_1 i) K)⟩)))⟩
theorem sx_ev_j {post : Int32 → SX → Prop} {xD xC : Int32} {xrk xrw xcl xfm xnm xk xa xcp xfi xse xsp xin xva : Nat → Int32} {n i h m t : Nat} (hi : i < n) (hn : n ≤ 20) (h1 : 2 ≤ h) (hh : h ≤ 6) (ht : t < 3) (ek : xk i = nI t) (K : wX_formulaValue_4 post (nI n) xD xC m (nI (h - 1)) (nI (i + 1)) xrk xrw xcl xfm xnm xk xa xcp xfi xse xsp xin (upd xva (h - 2) (sf_op t (xva (h - 2)) (xva (h - 1))))) : wX_formulaValue_4 post (nI n) xD xC (m + 1) (nI h) (nI i) xrk xrw xcl xfm xnm xk xa xcp xfi xse xsp xin xva := by
  have vi : vp_in (nI i) 20 := vp_in_nI (by omega) (by decide)
  have ci : (nI i).toNatClampNeg = i := nI_clamp (by omega)
  have eh : nI h + (-1) = nI (h - 1) := by
    obtain ⟨g, rfl⟩ : ∃ g, h = g + 1 := ⟨h - 1, by omega⟩
    exact pk_m1 g
  have eh2 : nI (h - 1) - 1 = nI (h - 2) := by
    have := pk_sub (a := h - 1) (b := 1) (by omega)
    rw [show h - 1 - 1 = h - 2 by omega] at this
    exact this
  have v1 : vp_in (nI (h - 1)) 6 := vp_in_nI (by omega) (by decide)
  have v2 : vp_in (nI (h - 2)) 6 := vp_in_nI (by omega) (by decide)
  have n3 : ∀ t, t < 3 → ¬ nI t = 3 ∧ ¬ nI t = 4 ∧ ¬ nI t = 5 := by decide
  obtain ⟨m1, m2, m3⟩ := n3 t ht
  refine br_f (nI_ge hi (by omega)) ⟨vi, nm_r (e' := nI t) (by rw [ci, ek]) (br_f m1 (br_f m2 (br_f m3 (nm_r eh ?_))))⟩
  rw [eh2, nI_clamp (by omega), nI_clamp (by omega)]
  exact ⟨v2, v1, sx_joined ht ⟨v2, nm_e (nm_r (nI_1 i) K)⟩⟩
