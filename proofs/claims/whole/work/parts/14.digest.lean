def sf_dg (g : Nat → Int32) (k : Nat) : Int32 := nI (7 * (k / 6) + k % 6 + 1) * g k
theorem sf_dgx (i j : Nat) : 7 * nI i + nI j + 1 = nI (7 * i + j + 1) := by
  show nI 7 * nI i + nI j + 1 = _
  rw [pk_mul, nI_add, nI_1]
theorem sf_dg_ij (g : Nat → Int32) {i j : Nat} (hj : j < 6) : sf_dg g (6 * i + j) = nI (7 * i + j + 1) * g (6 * i + j) := by
  unfold sf_dg
  rw [show (6 * i + j) / 6 = i by omega, show (6 * i + j) % 6 = j by omega]
theorem sf_dgy {k : Nat} (hk : k < 36) : 7 * (nI k / 6) + (nI k - nI k / 6 * 6) + 1 = nI (7 * (k / 6) + k % 6 + 1) := by
  have e1 : nI k / 6 = nI (k / 6) := pk_div (d := 6) (by omega) (by decide) (by decide)
  have e2 : nI k - nI k / 6 * 6 = nI (k % 6) := pk_rem (d := 6) (by omega) (by decide) (by decide)
  rw [e2, e1]
  exact sf_dgx (k / 6) (k % 6)
theorem sx_dg27 {post : Int32 → Prop} {J : Int32 → Int32 → Prop} {xP xD xC : Int32} {xrk xrw xcl xfm xnm xk xa xcp xfi xse xsp xin xva : Nat → Int32} {r i w : Nat} {s0 : Int32} (hr : r < 6) (hi : i < 6) (e2 : xcl r = nI w) (hw : w ≤ 6) (p : J (s0 + bx_sum (fun j => sf_dg (fun k => xnm (36 * r + k)) (6 * i + j)) w) (nI (i + 1))) : ∃ n, wX_digest_27 post J (nI r) (nI i) xP xD xC xrk xrw xcl xfm xnm xk xa xcp xfi xse xsp xin xva n s0 0 := by
  have hv : vp_in (nI r) 6 := vp_in_nI hr (by decide)
  have ec : (nI r).toNatClampNeg = r := nI_clamp (by omega)
  refine pk_loop (fun n j (s : Int32) => wX_digest_27 post J (nI r) (nI i) xP xD xC xrk xrw xcl xfm xnm xk xa xcp xfi xse xsp xin xva n s (nI j)) (fun j s => s = s0 + bx_sum (fun j => sf_dg (fun k => xnm (36 * r + k)) (6 * i + j)) j) w 0 s0 (by omega) (Int32.add_zero s0).symm (fun n s hs => ⟨hv, br_t (by rw [ec, e2]; exact nI_le (by omega) (by omega)) (nm_r (nI_1 i) (by rw [hs]; exact p))⟩) (fun n j s hj hs k => ⟨hv, br_f (by rw [ec, e2]; exact nI_ge hj (by omega)) ?_⟩)
  have e : nI r * 36 + nI i * 6 + nI j = nI (36 * r + 6 * i + j) := sf_xi r i j
  have ec2 : (nI (36 * r + 6 * i + j)).toNatClampNeg = 36 * r + (6 * i + j) := by rw [nI_clamp (by omega)]; omega
  rw [e, ec2, sf_dgx]
  refine ⟨vp_in_nI (by omega) (by decide), nm_e (nm_r (nI_1 j) (k _ ?_))⟩
  rw [sm_s, hs, Int32.add_assoc, sf_dg_ij _ (by omega)]
theorem sx_dg {post : Int32 → Prop} {xP xD xC : Int32} {xrk xrw xcl xfm xnm xk xa xcp xfi xse xsp xin xva : Nat → Int32} {r h w : Nat} (hr : r < 6) (e1 : xrw r = nI h) (e2 : xcl r = nI w) (hh : h ≤ 6) (hw : w ≤ 6) (O : sf_Out h w (fun i => xnm (36 * r + i))) (p : post (bx_sum (sf_dg (fun k => xnm (36 * r + k))) 36)) : ∃ n, wX_digest_14 post (nI r) xP xD xC xrk xrw xcl xfm xnm xk xa xcp xfi xse xsp xin xva n 0 0 := by
  have hv : vp_in (nI r) 6 := vp_in_nI hr (by decide)
  have ec : (nI r).toNatClampNeg = r := nI_clamp (by omega)
  have O' : ∀ i j, i < 6 → j < 6 → (h ≤ i ∨ w ≤ j) → sf_dg (fun k => xnm (36 * r + k)) (6 * i + j) = 0 := by
    intro i j hi hj hz
    rw [sf_dg_ij _ hj, show xnm (36 * r + (6 * i + j)) = 0 from O i j hi hj hz, Int32.mul_zero]
  rw [sm_block hh hw O'] at p
  refine pk_loop (fun n i (s : Int32) => wX_digest_14 post (nI r) xP xD xC xrk xrw xcl xfm xnm xk xa xcp xfi xse xsp xin xva n s (nI i)) (fun i s => s = bx_sum (fun i => bx_sum (fun j => sf_dg (fun k => xnm (36 * r + k)) (6 * i + j)) w) i) h 0 0 (by omega) rfl (fun n s hs => ⟨hv, br_t (by rw [ec, e1]; exact nI_le (by omega) (by omega)) (by rw [hs]; exact p)⟩) (fun n i s hi hs k => ⟨hv, br_f (by rw [ec, e1]; exact nI_ge hi (by omega)) ?_⟩)
  exact sx_dg27 hr (by omega) e2 hw (k _ (by rw [sm_s, hs]))
theorem sy_dg {post : Int32 → Prop} {yP yA yD : Int32} {yrk yrw ywi yfm yce ykd ynu ysz yva yfi yse yat ysp : Nat → Int32} {r : Nat} (hr : r < 6) (p : post (bx_sum (sf_dg (fun k => yce (36 * r + k))) 36)) : ∃ n, wY_digest_15 post (nI r) yP yA yD yrk yrw ywi yfm yce ykd ynu ysz yva yfi yse yat ysp n 0 0 := by
  refine pk_loop (fun n i (s : Int32) => wY_digest_15 post (nI r) yP yA yD yrk yrw ywi yfm yce ykd ynu ysz yva yfi yse yat ysp n s (nI i)) (fun i s => s = bx_sum (sf_dg (fun k => yce (36 * r + k))) i) 36 0 0 (by omega) rfl (fun n s hs => br_t (nI_le (a := 36) (b := 36) (by omega) (by omega)) (by rw [hs]; exact p)) (fun n i s hi hs k => br_f (nI_ge (b := 36) hi (by omega)) ⟨by decide, by decide, ?_⟩)
  have e : 36 * nI r + nI i = nI (36 * r + i) := sf_yp r i
  have ec2 : (nI (36 * r + i)).toNatClampNeg = 36 * r + i := nI_clamp (by omega)
  rw [e, ec2, sf_dgy hi]
  exact ⟨vp_in_nI (by omega) (by decide), nm_e (nm_r (nI_1 i) (k _ (by rw [sm_s, hs]; rfl)))⟩
theorem i_vc_digest {k : Nat} {u : SX} {v : SY} (I : i_Rel k u v) (hk : k + 5 ≤ 2560) (v1 : Int32) : wpX_digest (fun r => wpY_digest (fun r' => r' = r ∧ i_Rel (k + 5) u v) v v1) u v1 := by
  obtain ⟨xP, xD, xC, xrk, xrw, xcl, xfm, xnm, xk, xa, xcp, xfi, xse, xsp, xin, xva⟩ := u
  obtain ⟨yP, yA, yD, yrk, yrw, ywi, yfm, yce, ykd, ynu, ysz, yva, yfi, yse, yat, ysp⟩ := v
  have I0 := I
  obtain ⟨n, c, d, ⟨rfl, rfl, rfl, rfl, rfl, rfl⟩, G, F⟩ := I
  unfold wpX_digest wpY_digest
  dsimp only
  by_cases hr : sf_rg v1
  · obtain ⟨r, hr, rfl⟩ := hr
    obtain ⟨q, h, w, f, a1, a2, a3, a4, p1, p2, p3, p4, S, O, O2⟩ := sf_reg G hr
    refine sx_reg_t hr (br_f (by decide) (sx_dg hr a2 a3 S.2.1 S.2.2.2.1 O2 ?_))
    refine sy_reg_t hr (br_f (by decide) (sy_dg hr ⟨?_, I0⟩))
    refine sm_cg 36 (fun i hi => ?_)
    show nI (7 * (i / 6) + i % 6 + 1) * yce (36 * r + i) = nI (7 * (i / 6) + i % 6 + 1) * xnm (36 * r + i)
    rw [G.2.1 (36 * r + i) (by omega)]
  · exact sx_reg_f hr (br_t rfl (sy_reg_f hr (br_t rfl ⟨rfl, I0⟩)))
theorem sf_sm {xP xD xC : Int32} {xrk xrw xcl xfm xnm xk xa xcp xfi xse xsp xin xva : Nat → Int32} {yP yA yD : Int32} {yrk yrw ywi yfm yce ykd ynu ysz yva yfi yse yat ysp : Nat → Int32} (e : ∀ k, k < 216 → xnm k = yce k) {r s : Nat} (hr : r < 6) (hs : s < 6) : ∀ d i : Nat, i + d = 36 → ∃ a : Int32, (∀ post : Int32 → Prop, post a → wX_same_65 post (nI r) (nI s) xP xD xC xrk xrw xcl xfm xnm xk xa xcp xfi xse xsp xin xva (d + 1) (nI i)) ∧ (∀ post : Int32 → Prop, post a → wY_same_65 post (nI r) (nI s) yP yA yD yrk yrw ywi yfm yce ykd ynu ysz yva yfi yse yat ysp (d + 1) (nI i)) := by
  intro d
  induction d with
  | zero =>
    intro i hi
    have h : (36 : Int32) ≤ nI i := nI_le (a := 36) (by omega) (by omega)
    exact ⟨1, fun _ hp => br_t h hp, fun _ hp => br_t h hp⟩
  | succ d ih =>
    intro i hi
    have h : ¬ (36 : Int32) ≤ nI i := nI_ge (b := 36) (by omega) (by omega)
    have x1 : nI r * 36 + nI i = nI (36 * r + i) := sf_xp r i
    have x2 : nI s * 36 + nI i = nI (36 * s + i) := sf_xp s i
    have y1 : 36 * nI r + nI i = nI (36 * r + i) := sf_yp r i
    have y2 : 36 * nI s + nI i = nI (36 * s + i) := sf_yp s i
    have c1 : (nI (36 * r + i)).toNatClampNeg = 36 * r + i := nI_clamp (by omega)
    have c2 : (nI (36 * s + i)).toNatClampNeg = 36 * s + i := nI_clamp (by omega)
    have vx1 : vp_in (nI r * 36 + nI i) 216 := by rw [x1]; exact vp_in_nI (by omega) (by decide)
    have vx2 : vp_in (nI s * 36 + nI i) 216 := by rw [x2]; exact vp_in_nI (by omega) (by decide)
    have vy1 : vp_in (36 * nI r + nI i) 468 := by rw [y1]; exact vp_in_nI (by omega) (by decide)
    have vy2 : vp_in (36 * nI s + nI i) 468 := by rw [y2]; exact vp_in_nI (by omega) (by decide)
    by_cases z : yce (36 * r + i) = yce (36 * s + i)
    · obtain ⟨a, hX, hY⟩ := ih (i + 1) (by omega)
      refine ⟨a, fun post hp => br_f h ⟨vx1, vx2, br_t ?_ (nm_r (nI_1 i) (hX post hp))⟩, fun post hp => br_f h ⟨vy1, vy2, br_t ?_ (nm_r (nI_1 i) (hY post hp))⟩⟩
      · rw [x1, x2, c1, c2, e _ (by omega), e _ (by omega)]; exact z
      · rw [y1, y2, c1, c2]; exact z
    · refine ⟨0, fun post hp => br_f h ⟨vx1, vx2, br_f ?_ hp⟩, fun post hp => br_f h ⟨vy1, vy2, br_f ?_ hp⟩⟩
      · rw [x1, x2, c1, c2, e _ (by omega), e _ (by omega)]; exact z
      · rw [y1, y2, c1, c2]; exact z
theorem i_vc_same {k : Nat} {u : SX} {v : SY} (I : i_Rel k u v) (hk : k + 5 ≤ 2560) (v1 : Int32) (v2 : Int32) : wpX_same (fun r => wpY_same (fun r' => r' = r ∧ i_Rel (k + 5) u v) v v1 v2) u v1 v2 := by
  obtain ⟨xP, xD, xC, xrk, xrw, xcl, xfm, xnm, xk, xa, xcp, xfi, xse, xsp, xin, xva⟩ := u
  obtain ⟨yP, yA, yD, yrk, yrw, ywi, yfm, yce, ykd, ynu, ysz, yva, yfi, yse, yat, ysp⟩ := v
  have I0 := I
  obtain ⟨n, c, d, ⟨rfl, rfl, rfl, rfl, rfl, rfl⟩, G, F⟩ := I
  unfold wpX_same wpY_same
  dsimp only
  by_cases hr : sf_rg v1
  · obtain ⟨r, hr, rfl⟩ := hr
    by_cases hs : sf_rg v2
    · obtain ⟨s, hs, rfl⟩ := hs
      obtain ⟨a1, a2, a3, a4⟩ := G.1 r hr
      obtain ⟨b1, b2, b3, b4⟩ := G.1 s hs
      have hx1 : vp_in (nI r) 6 := vp_in_nI hr (by decide)
      have hy1 : vp_in (nI r) 13 := vp_in_nI (by omega) (by decide)
      have hx2 : vp_in (nI s) 6 := vp_in_nI hs (by decide)
      have hy2 : vp_in (nI s) 13 := vp_in_nI (by omega) (by decide)
      have c1 : (nI r).toNatClampNeg = r := nI_clamp (by omega)
      have c2 : (nI s).toNatClampNeg = s := nI_clamp (by omega)
      rw [c1, c2, a1, a2, a3, b1, b2, b3]
      obtain ⟨a, hX, hY⟩ := sf_sm (xP := nI n) (xD := nI d) (xC := nI c) (xrk := xrk) (xrw := xrw) (xcl := xcl) (xfm := xfm) (xk := xk) (xa := xa) (xcp := xcp) (xfi := xfi) (xse := xse) (xsp := xsp) (xin := xin) (xva := xva) (yP := nI n) (yA := nI c) (yD := nI d) (yrk := yrk) (yrw := yrw) (ywi := ywi) (yfm := yfm) (ykd := ykd) (ynu := ynu) (ysz := ysz) (yva := yva) (yfi := yfi) (yse := yse) (yat := yat) (ysp := ysp) G.2.1 hr hs 36 0 rfl
      refine sx_reg_t hr (br_f (by decide) (sx_reg_t hs (br_f (by decide) ⟨hx1, hx2, br_c (fun z1 => ⟨hx1, hx2, br_c (fun z2 => ⟨hx1, hx2, br_c (fun z3 => ⟨_, hX _ ?_⟩) (fun z3 => ?_)⟩) (fun z2 => ?_)⟩) (fun z1 => ?_)⟩)))
      · exact sy_reg_t hr (br_f (by decide) (sy_reg_t hs (br_f (by decide) ⟨hy1, hy2, br_t z1 ⟨hy1, hy2, br_t z2 ⟨hy1, hy2, br_t z3 ⟨_, hY _ ⟨rfl, I0⟩⟩⟩⟩⟩)))
      · exact sy_reg_t hr (br_f (by decide) (sy_reg_t hs (br_f (by decide) ⟨hy1, hy2, br_t z1 ⟨hy1, hy2, br_t z2 ⟨hy1, hy2, br_f z3 ⟨rfl, I0⟩⟩⟩⟩)))
      · exact sy_reg_t hr (br_f (by decide) (sy_reg_t hs (br_f (by decide) ⟨hy1, hy2, br_t z1 ⟨hy1, hy2, br_f z2 ⟨rfl, I0⟩⟩⟩)))
      · exact sy_reg_t hr (br_f (by decide) (sy_reg_t hs (br_f (by decide) ⟨hy1, hy2, br_f z1 ⟨rfl, I0⟩⟩)))
    · exact sx_reg_t hr (br_f (by decide) (sx_reg_f hs (br_t rfl (sy_reg_t hr (br_f (by decide) (sy_reg_f hs (br_t rfl ⟨rfl, I0⟩)))))))
  · exact sx_reg_f hr (br_t rfl (sy_reg_f hr (br_t rfl ⟨rfl, I0⟩)))
