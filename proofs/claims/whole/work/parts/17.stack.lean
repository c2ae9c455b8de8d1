theorem sf_3a (d p : Nat) : nI d * 3 + nI p = nI (3 * d + p) := by
  show nI d * nI 3 + nI p = _
  rw [pk_mul, nI_add]
  exact congrArg nI (by omega)
theorem sx_addPart {post : SX → Prop} {xD xC : Int32} {xrk xrw xcl xfm xnm xk xa xcp xfi xse xsp xin xva : Nat → Int32} {n : Nat} {a b : Int32} (hn : n < 20) (p : post (nI (n + 1), xD, xC, xrk, xrw, xcl, xfm, xnm, upd xk n a, upd xa n b, xcp, xfi, xse, xsp, xin, xva)) : wpX_addPart post (nI n, xD, xC, xrk, xrw, xcl, xfm, xnm, xk, xa, xcp, xfi, xse, xsp, xin, xva) a b := by
  have hv : vp_in (nI n) 20 := vp_in_nI hn (by decide)
  have ec : (nI n).toNatClampNeg = n := nI_clamp (by omega)
  exact ⟨hv, nm_r (e' := upd xk n a) (by rw [ec]) ⟨hv, nm_r (e' := upd xa n b) (by rw [ec]) (nm_r (nI_1 n) p)⟩⟩
theorem sx_pushW {post : SX → Prop} {xP xC : Int32} {xrk xrw xcl xfm xnm xk xa xcp xfi xse xsp xin xva : Nat → Int32} {d : Nat} (hd : d < 6) (p : ∀ A, sf_blk (3 * d) 3 (fun _ => 0) xsp A → post (xP, nI (d + 1), xC, xrk, xrw, xcl, xfm, xnm, xk, xa, xcp, xfi, xse, A, xin, xva)) : wpX_pushWithoutIndices post (xP, nI d, xC, xrk, xrw, xcl, xfm, xnm, xk, xa, xcp, xfi, xse, xsp, xin, xva) := by
  unfold wpX_pushWithoutIndices
  dsimp only
  refine pk_loop (fun n i (A : Nat → Int32) => wX_pushWithoutIndices_2 post xP (nI d) xC n (nI i) xrk xrw xcl xfm xnm xk xa xcp xfi xse A xin xva) (fun i A => sf_blk (3 * d) i (fun _ => 0) xsp A) 3 0 xsp (by omega) (sf_blk_0 _ _ _) (fun n A hA => br_t (nI_le (a := 3) (b := 3) (by omega) (by decide)) (nm_r (nI_1 d) (p A hA))) (fun n i A hi hA k => br_f (nI_ge (b := 3) hi (by decide)) ?_)
  have e := sf_3a d i
  refine ⟨by rw [e]; exact vp_in_nI (by omega) (by decide), nm_r (e' := upd A (3 * d + i) 0) (by rw [e, nI_clamp (by omega)]) (nm_r (nI_1 i) (k _ (sf_blk_s hA rfl)))⟩
theorem sy_addE {post : Int32 → SY → Prop} {yA : Int32} {yrk yrw ywi yfm yce ykd ynu ysz yva yfi yse yat ysp : Nat → Int32} {n d t m : Nat} {a b s : Int32} (hn : n < 20) (hd : d ≤ 6) (ht : t ≤ d) (ht2 : t ≤ 2) (p : post (nI (d + 1 - t)) (nI (n + 1), yA, nI (d + 1 - t), yrk, yrw, ywi, yfm, yce, upd ykd n a, upd ynu n b, upd ysz n s, yva, yfi, yse, yat, ysp)) : wY_add_6 post a b (nI t) (nI n) yA (nI d) yrk yrw ywi yfm yce ykd ynu ysz yva yfi yse yat ysp (m + 1) s (nI t) := by
  have hv : vp_in (nI n) 20 := vp_in_nI hn (by decide)
  have ec : (nI n).toNatClampNeg = n := nI_clamp (by omega)
  refine br_t (nI_le (by omega) (by omega)) ⟨hv, nm_r (e' := upd ykd n a) (by rw [ec]) ⟨hv, nm_r (e' := upd ynu n b) (by rw [ec]) ⟨hv, nm_r (e' := upd ysz n s) (by rw [ec]) (nm_r (nI_1 n) (nm_r (e' := nI (d + 1 - t)) ?_ p))⟩⟩⟩
  rw [nI_1, pk_sub (by omega)]
theorem sy_addS {post : Int32 → SY → Prop} {yA yD : Int32} {yrk yrw ywi yfm yce ykd ynu ysz yva yfi yse yat ysp : Nat → Int32} {n t i s z m : Nat} {a b : Int32} (hn : n ≤ 20) (hs : s ≤ n) (hs1 : 1 ≤ s) (hi : i < t) (ht : t ≤ 2) (e : ysz (n - s) = nI z) (p : wY_add_6 post a b (nI t) (nI n) yA yD yrk yrw ywi yfm yce ykd ynu ysz yva yfi yse yat ysp m (nI (s + z)) (nI (i + 1))) : wY_add_6 post a b (nI t) (nI n) yA yD yrk yrw ywi yfm yce ykd ynu ysz yva yfi yse yat ysp (m + 1) (nI s) (nI i) := by
  have e1 : nI n - nI s = nI (n - s) := pk_sub hs
  refine br_f (nI_ge hi (by omega)) ⟨by rw [e1]; exact vp_in_nI (by omega) (by decide), nm_r (e' := nI (s + z)) ?_ (nm_r (nI_1 i) p)⟩
  rw [e1, nI_clamp (by omega), e, nI_add]
theorem i_vc_constant {k : Nat} {u : SX} {v : SY} (I : i_Rel k u v) (hk : k + 5 ≤ 2560) (v1 : Int32) : wpX_constant (fun r u' => wpY_constant (fun r' v' => r' = r ∧ i_Rel (k + 5) u' v') v v1) u v1 := by
  obtain ⟨xP, xD, xC, xrk, xrw, xcl, xfm, xnm, xk, xa, xcp, xfi, xse, xsp, xin, xva⟩ := u
  obtain ⟨yP, yA, yD, yrk, yrw, ywi, yfm, yce, ykd, ynu, ysz, yva, yfi, yse, yat, ysp⟩ := v
  have I0 := I
  obtain ⟨n, c, d, ⟨rfl, rfl, rfl, rfl, rfl, rfl⟩, G, F⟩ := I
  have F' := F
  obtain ⟨f1, f2, f3, f4, f5, f6, f7⟩ := F
  unfold wpX_constant
  dsimp only
  by_cases h1 : v1 < -99
  · exact br_t h1 (br_t h1 ⟨rfl, I0⟩)
  by_cases h2 : v1 ≤ 99
  · by_cases hn : n = 20
    · exact br_f h1 (br_t h2 (br_t (nI_le (a := 20) (by omega) (by omega)) (br_f h1 (br_t h2 (br_t (by rw [hn]; rfl) ⟨rfl, I0⟩)))))
    · have hn' : ¬ nI n = 20 := fun y => hn ((nI_eq (b := 20) (by omega) (by decide)).mp y)
      by_cases hd : d = 6
      · exact br_f h1 (br_t h2 (br_f (nI_ge (b := 20) (by omega) (by decide)) (br_f (nI_nlt (b := 6) (by omega) (by omega)) (br_f h1 (br_t h2 (br_f hn' (br_t (by rw [hd]; rfl) ⟨rfl, I0⟩)))))))
      · have hd' : ¬ nI d = 6 := fun y => hd ((nI_eq (b := 6) (by omega) (by decide)).mp y)
        refine br_f h1 (br_t h2 (br_f (nI_ge (b := 20) (by omega) (by decide)) (br_t (nI_lt (b := 6) (by omega) (by decide)) (sx_addPart (by omega) (sx_pushW (by omega) (fun A hA => ?_))))))
        dsimp only
        refine br_f h1 (br_t h2 (br_f hn' (br_f hd' ⟨0 + 1, sy_addE (s := nI 1) (t := 0) (by omega) f3 (by omega) (by omega) ⟨rfl, ?_⟩⟩)))
        have eE : sf_E ykd n (d - 0) = n := by rw [Nat.sub_zero, ← f4]; exact sf_E_top ykd n
        refine sf_mk G (sf_push (t := 0) F' (by omega) (Nat.le_refl c) f2 (by rw [pk_us]; rfl) (by omega) (by omega) (fun j hj => pk_un (by omega)) (fun j hj => pk_un (by omega)) (fun j hj => pk_un (by omega)) (fun j hj => pk_un (by omega)) (fun j hj => pk_un (by omega)) ?_ (Or.inl ⟨pk_us, pk_us, by rw [pk_us, pk_us]⟩) f6 (fun a ha => ⟨rfl, rfl, rfl, rfl⟩) (fun k p hk hp => hA.2 _ (by omega)) (fun p hp => ?_))
        · rw [pk_us, eE]
          exact congrArg nI (by omega)
        · rw [eE, Nat.sub_self, sf_fs_0, sf_cs_0l, sf_cb_no (by rw [pk_us]; decide)]
          exact hA.1 p hp
  · exact br_f h1 (br_f h2 (br_f h1 (br_f h2 ⟨rfl, I0⟩)))
theorem i_vc_negate {k : Nat} {u : SX} {v : SY} (I : i_Rel k u v) (hk : k + 5 ≤ 2560) : wpX_negate (fun r u' => wpY_negate (fun r' v' => r' = r ∧ i_Rel (k + 5) u' v') v) u := by
  obtain ⟨xP, xD, xC, xrk, xrw, xcl, xfm, xnm, xk, xa, xcp, xfi, xse, xsp, xin, xva⟩ := u
  obtain ⟨yP, yA, yD, yrk, yrw, ywi, yfm, yce, ykd, ynu, ysz, yva, yfi, yse, yat, ysp⟩ := v
  have I0 := I
  obtain ⟨n, c, d, ⟨rfl, rfl, rfl, rfl, rfl, rfl⟩, G, F⟩ := I
  have F' := F
  obtain ⟨f1, f2, f3, f4, f5, f6, f7⟩ := F
  unfold wpX_negate
  dsimp only
  by_cases hn : n = 20
  · exact br_f (nI_nlt (b := 20) (by omega) (by omega)) (br_t (by rw [hn]; rfl) ⟨rfl, I0⟩)
  have hn' : ¬ nI n = 20 := fun y => hn ((nI_eq (b := 20) (by omega) (by decide)).mp y)
  have hn2 : nI n < 20 := nI_lt (b := 20) (by omega) (by decide)
  by_cases hd : d = 0
  · exact br_t hn2 (br_f (nI_ge (b := 1) (by omega) (by decide)) (br_f hn' (br_t (by rw [hd]; rfl) ⟨rfl, I0⟩)))
  obtain ⟨g1, g2, g3⟩ := sf_size1 F' (by omega)
  refine br_t hn2 (br_t (nI_le (a := 1) (by omega) (by omega)) (sx_addPart (by omega) ?_))
  dsimp only
  refine br_f hn' (br_f (nI_ne0 (by omega) (by omega)) ⟨0 + 1 + 1, sy_addS (s := 1) (t := 1) (i := 0) f1 (by omega) (by omega) (by omega) (by omega) g3 (sy_addE (t := 1) (by omega) f3 (by omega) (by omega) ⟨?_, ?_⟩)⟩)
  · exact congrArg nI (by omega)
  · have ed : d + 1 - 1 = d := by omega
    have := sf_push (t := 1) (c' := c) (xk' := upd xk n 5) (xa' := upd xa n 0) (ykd' := upd ykd n 2) (ynu' := upd ynu n 0) (ysz' := upd ysz n (nI (1 + (n - sf_E ykd n (d - 1))))) (xsp' := xsp) (yce' := yce) (xcp' := xcp) (xfi' := xfi) (xse' := xse) (yfi' := yfi) (yse' := yse) (yrw' := yrw) (ywi' := ywi) F' (by omega) (Nat.le_refl c) f2 (by rw [pk_us]; rfl) (by omega) (by omega) (fun j hj => pk_un (by omega)) (fun j hj => pk_un (by omega)) (fun j hj => pk_un (by omega)) (fun j hj => pk_un (by omega)) (fun j hj => pk_un (by omega)) (by rw [pk_us]; exact congrArg nI (by omega)) (Or.inr (Or.inr (Or.inl ⟨pk_us, pk_us⟩))) f6 (fun a ha => ⟨rfl, rfl, rfl, rfl⟩) (fun k p hk hp => rfl) (fun p hp => by rw [sf_cb_no (by rw [pk_us]; decide), sf_cs_0r]; exact sf_top F' (by omega) p hp)
    rw [ed] at this ⊢
    exact sf_mk G this
theorem sx_cs {post : Int32 → Prop} {a b : Int32} (p : post (sf_cs a b)) : wpX_commonSpan post a b := by
  unfold sf_cs at p
  refine br_c (fun z => ?_) (fun z => br_c (fun z2 => ?_) (fun z2 => br_c (fun z3 => ?_) (fun z3 => ?_)))
  · rw [if_pos (Or.inl z)] at p; exact p
  · rw [if_pos (Or.inr z2)] at p; exact p
  · rw [if_neg (fun y => y.elim z z2), if_pos z3] at p; exact p
  · rw [if_neg (fun y => y.elim z z2), if_neg z3] at p; exact p
theorem sx_join53 {post : Int32 → SX → Prop} {xP xC : Int32} {xrk xrw xcl xfm xnm xk xa xcp xfi xse xsp xin xva : Nat → Int32} {d : Nat} (hd : 2 ≤ d) (hd6 : d ≤ 6) (p : ∀ A, sf_blk (3 * (d - 2)) 3 (fun p => sf_cs (xsp (3 * (d - 2) + p)) (xsp (3 * (d - 1) + p))) xsp A → post (nI (d - 1)) (xP, nI (d - 1), xC, xrk, xrw, xcl, xfm, xnm, xk, xa, xcp, xfi, xse, A, xin, xva)) : ∃ n, wX_join_53 post xP (nI (d - 1)) xC n 0 xrk xrw xcl xfm xnm xk xa xcp xfi xse xsp xin xva := by
  refine pk_loop (fun n i (A : Nat → Int32) => wX_join_53 post xP (nI (d - 1)) xC n (nI i) xrk xrw xcl xfm xnm xk xa xcp xfi xse A xin xva) (fun i A => sf_blk (3 * (d - 2)) i (fun p => sf_cs (xsp (3 * (d - 2) + p)) (xsp (3 * (d - 1) + p))) xsp A) 3 0 xsp (by omega) (sf_blk_0 _ _ _) (fun n A hA => br_t (nI_le (a := 3) (b := 3) (by omega) (by decide)) (p A hA)) (fun n i A hi hA k => br_f (nI_ge (b := 3) hi (by decide)) ?_)
  have e0 : nI (d - 1) - 1 = nI (d - 2) := by
    have := pk_sub (a := d - 1) (b := 1) (by omega)
    rw [show d - 1 - 1 = d - 2 by omega] at this
    exact this
  have e1 : (nI (d - 1) - 1) * 3 + nI i = nI (3 * (d - 2) + i) := by rw [e0]; exact sf_3a (d - 2) i
  have e2 : nI (d - 1) * 3 + nI i = nI (3 * (d - 1) + i) := sf_3a (d - 1) i
  have c1 : (nI (3 * (d - 2) + i)).toNatClampNeg = 3 * (d - 2) + i := nI_clamp (by omega)
  have c2 : (nI (3 * (d - 1) + i)).toNatClampNeg = 3 * (d - 1) + i := nI_clamp (by omega)
  have v1 : vp_in (nI (3 * (d - 2) + i)) 18 := vp_in_nI (by omega) (by decide)
  have v2 : vp_in (nI (3 * (d - 1) + i)) 18 := vp_in_nI (by omega) (by decide)
  refine nm_r e1 (nm_r e2 ⟨v1, v2, sx_cs ⟨v1, nm_r (e' := upd A (3 * (d - 2) + i) (sf_cs (A (3 * (d - 2) + i)) (A (3 * (d - 1) + i)))) (by rw [c1, c2]) (nm_r (nI_1 i) (k _ (sf_blk_s hA ?_)))⟩⟩)
  show sf_cs (A (3 * (d - 2) + i)) (A (3 * (d - 1) + i)) = sf_cs (xsp (3 * (d - 2) + i)) (xsp (3 * (d - 1) + i))
  rw [hA.2 (3 * (d - 2) + i) (by omega), hA.2 (3 * (d - 1) + i) (by omega)]
theorem i_vc_join {k : Nat} {u : SX} {v : SY} (I : i_Rel k u v) (hk : k + 5 ≤ 2560) (v1 : Int32) : wpX_join (fun r u' => wpY_join (fun r' v' => r' = r ∧ i_Rel (k + 5) u' v') v v1) u v1 := by
  obtain ⟨xP, xD, xC, xrk, xrw, xcl, xfm, xnm, xk, xa, xcp, xfi, xse, xsp, xin, xva⟩ := u
  obtain ⟨yP, yA, yD, yrk, yrw, ywi, yfm, yce, ykd, ynu, ysz, yva, yfi, yse, yat, ysp⟩ := v
  have I0 := I
  obtain ⟨n, c, d, ⟨rfl, rfl, rfl, rfl, rfl, rfl⟩, G, F⟩ := I
  have F' := F
  obtain ⟨f1, f2, f3, f4, f5, f6, f7⟩ := F
  unfold wpX_join
  dsimp only
  by_cases h1 : v1 < 0
  · exact br_t h1 (br_t h1 ⟨rfl, I0⟩)
  by_cases h2 : v1 ≤ 2
  · by_cases hn : n = 20
    · exact br_f h1 (br_t h2 (br_f (nI_nlt (b := 20) (by omega) (by omega)) (br_f h1 (br_t h2 (br_t (by rw [hn]; rfl) ⟨rfl, I0⟩)))))
    have hn' : ¬ nI n = 20 := fun y => hn ((nI_eq (b := 20) (by omega) (by decide)).mp y)
    have hn2 : nI n < 20 := nI_lt (b := 20) (by omega) (by decide)
    by_cases hd : d < 2
    · have hd' : ¬ 2 ≤ nI d := nI_ge (b := 2) hd (by decide)
      exact br_f h1 (br_t h2 (br_t hn2 (br_f hd' (br_f h1 (br_t h2 (br_f hn' (br_f hd' ⟨rfl, I0⟩)))))))
    have hd' : 2 ≤ nI d := nI_le (a := 2) (by omega) (by omega)
    obtain ⟨t, ht, rfl⟩ := nI_of2 (n := 2) (by decide) h1 h2
    obtain ⟨g1, g2, g3⟩ := sf_size1 F' (by omega)
    obtain ⟨g4, g5, g6⟩ := sf_size2 F' (by omega)
    refine br_f h1 (br_t h2 (br_t hn2 (br_t hd' (sx_addPart (by omega) ?_))))
    dsimp only
    refine nm_r (e' := nI (d - 1)) (pk_sub (b := 1) (by omega)) (sx_join53 (by omega) f3 (fun A hA => ?_))
    have e3 : (3 : Int32) + nI t = nI (3 + t) := nI_add 3 t
    refine br_f h1 (br_t h2 (br_f hn' (br_t hd' ⟨0 + 1 + 1 + 1, sy_addS (s := 1) (t := 2) (i := 0) f1 (by omega) (by omega) (by omega) (by omega) g3 (sy_addS (s := 1 + (n - sf_E ykd n (d - 1))) (z := sf_E ykd n (d - 1) - sf_E ykd n (d - 2)) (t := 2) (i := 1) f1 (by omega) (by omega) (by omega) (by omega) ?_ (sy_addE (t := 2) (by omega) f3 (by omega) (by omega) ⟨?_, ?_⟩))⟩)))
    · rw [show n - (1 + (n - sf_E ykd n (d - 1))) = sf_E ykd n (d - 1) - 1 by omega]; exact g6
    · exact congrArg nI (by omega)
    · have ed : d + 1 - 2 = d - 1 := by omega
      rw [e3]
      have := sf_push (t := 2) (c' := c) (xk' := upd xk n (nI t)) (xa' := upd xa n 0) (ykd' := upd ykd n (nI (3 + t))) (ynu' := upd ynu n 0) (ysz' := upd ysz n (nI (1 + (n - sf_E ykd n (d - 1)) + (sf_E ykd n (d - 1) - sf_E ykd n (d - 2))))) (xsp' := A) (yce' := yce) (xcp' := xcp) (xfi' := xfi) (xse' := xse) (yfi' := yfi) (yse' := yse) (yrw' := yrw) (ywi' := ywi) F' (by omega) (Nat.le_refl c) f2 (by rw [pk_us]; exact sf_ar3 t (by omega)) (by omega) (by omega) (fun j hj => pk_un (by omega)) (fun j hj => pk_un (by omega)) (fun j hj => pk_un (by omega)) (fun j hj => pk_un (by omega)) (fun j hj => pk_un (by omega)) (by rw [pk_us]; exact congrArg nI (by omega)) (Or.inr (Or.inr (Or.inr ⟨t, by omega, pk_us, pk_us⟩))) f6 (fun a ha => ⟨rfl, rfl, rfl, rfl⟩) (fun k p hk hp => hA.2 _ (by omega)) (fun p hp => by
        have n1 : ∀ t, t < 3 → ¬ nI (3 + t) = 1 := by decide
        rw [sf_cb_no (by rw [pk_us]; exact n1 t (by omega)), sf_cs_0r, ← sf_top2 F' (by omega) p hp]
        exact hA.1 p hp)
      rw [ed] at this ⊢
      exact sf_mk G this
  · exact br_f h1 (br_f h2 (br_f h1 (br_f h2 ⟨rfl, I0⟩)))
