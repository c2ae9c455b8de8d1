theorem sf_reg {xrk xrw xcl xfm xnm yrk yrw ywi yfm yce : Nat → Int32} (G : sf_Regs xrk xrw xcl xfm xnm yrk yrw ywi yfm yce) {r : Nat} (hr : r < 6) : ∃ k h w f : Nat, xrk r = nI k ∧ xrw r = nI h ∧ xcl r = nI w ∧ xfm r = nI f ∧ yrk r = nI k ∧ yrw r = nI h ∧ ywi r = nI w ∧ yfm r = nI f ∧ sf_Sh k h w f ∧ sf_Out h w (fun i => yce (36 * r + i)) ∧ sf_Out h w (fun i => xnm (36 * r + i)) := by
  obtain ⟨k, h, w, f, p1, p2, p3, p4, S, O⟩ := G.2.2 r hr
  obtain ⟨a1, a2, a3, a4⟩ := G.1 r hr
  refine ⟨k, h, w, f, by rw [a1, p1], by rw [a2, p2], by rw [a3, p3], by rw [a4, p4], p1, p2, p3, p4, S, O, fun i j hi hj hz => ?_⟩
  show xnm (36 * r + (6 * i + j)) = 0
  rw [G.2.1 _ (by omega)]
  exact O i j hi hj hz
theorem i_vc_get {k : Nat} {u : SX} {v : SY} (I : i_Rel k u v) (hk : k + 5 ≤ 2560) (v1 : Int32) (v2 : Int32) (v3 : Int32) : wpX_get (fun r => wpY_get (fun r' => r' = r ∧ i_Rel (k + 5) u v) v v1 v2 v3) u v1 v2 v3 := by
  obtain ⟨xP, xD, xC, xrk, xrw, xcl, xfm, xnm, xk, xa, xcp, xfi, xse, xsp, xin, xva⟩ := u
  obtain ⟨yP, yA, yD, yrk, yrw, ywi, yfm, yce, ykd, ynu, ysz, yva, yfi, yse, yat, ysp⟩ := v
  have I0 := I
  obtain ⟨n, c, d, ⟨rfl, rfl, rfl, rfl, rfl, rfl⟩, G, F⟩ := I
  unfold wpX_get wpY_get
  dsimp only
  by_cases hr : sf_rg v1
  · obtain ⟨r, hr, rfl⟩ := hr
    obtain ⟨q, h, w, f, a1, a2, a3, a4, p1, p2, p3, p4, S, O, O2⟩ := sf_reg G hr
    obtain ⟨s1, s2, s3, s4, s5⟩ := S
    by_cases hp : sf_pl h w v2 v3
    · obtain ⟨a, b, ha, hb, rfl, rfl⟩ := hp
      have ix := sf_xi r a b
      have iy := sf_yi r a b
      refine sx_reg_t hr (br_f (by decide) (sx_place_t hr a2 a3 s2 s4 ha hb (br_f (by decide) ⟨by rw [ix]; exact vp_in_nI (by omega) (by decide), ?_⟩)))
      refine sy_reg_t hr (br_f (by decide) (sy_place_t hr p2 p3 s2 s4 ha hb (br_f (by decide) ⟨by rw [iy]; exact vp_in_nI (by omega) (by decide), ?_, I0⟩)))
      rw [ix, iy, nI_clamp (by omega)]
      exact (G.2.1 _ (by omega)).symm
    · exact sx_reg_t hr (br_f (by decide) (sx_place_f hr a2 a3 s2 s4 hp (br_t rfl (sy_reg_t hr (br_f (by decide) (sy_place_f hr p2 p3 s2 s4 hp (br_t rfl ⟨rfl, I0⟩)))))))
  · exact sx_reg_f hr (br_t rfl (sy_reg_f hr (br_t rfl ⟨rfl, I0⟩)))
theorem i_vc_put {k : Nat} {u : SX} {v : SY} (I : i_Rel k u v) (hk : k + 5 ≤ 2560) (v1 : Int32) (v2 : Int32) (v3 : Int32) (v4 : Int32) : wpX_put (fun r u' => wpY_put (fun r' v' => r' = r ∧ i_Rel (k + 5) u' v') v v1 v2 v3 v4) u v1 v2 v3 v4 := by
  obtain ⟨xP, xD, xC, xrk, xrw, xcl, xfm, xnm, xk, xa, xcp, xfi, xse, xsp, xin, xva⟩ := u
  obtain ⟨yP, yA, yD, yrk, yrw, ywi, yfm, yce, ykd, ynu, ysz, yva, yfi, yse, yat, ysp⟩ := v
  have I0 := I
  obtain ⟨n, c, d, ⟨rfl, rfl, rfl, rfl, rfl, rfl⟩, G, F⟩ := I
  unfold wpX_put wpY_put
  dsimp only
  by_cases hr : sf_rg v1
  · obtain ⟨r, hr, rfl⟩ := hr
    obtain ⟨q, h, w, f, a1, a2, a3, a4, p1, p2, p3, p4, S, O, O2⟩ := sf_reg G hr
    have S' := S
    obtain ⟨s1, s2, s3, s4, s5⟩ := S
    by_cases hp : sf_pl h w v2 v3
    · obtain ⟨a, b, ha, hb, rfl, rfl⟩ := hp
      have ix := sf_xi r a b
      have iy := sf_yi r a b
      have hx : vp_in (nI (36 * r + 6 * a + b)) 216 := vp_in_nI (by omega) (by decide)
      have hy : vp_in (36 * nI r + 6 * nI a + nI b) 468 := by rw [iy]; exact vp_in_nI (by omega) (by decide)
      have ec : (nI (36 * r + 6 * a + b)).toNatClampNeg = 36 * r + 6 * a + b := nI_clamp (by omega)
      refine sx_reg_t hr (br_f (by decide) (sx_place_t hr a2 a3 s2 s4 ha hb (br_f (by decide) (nm_r ix ⟨hx, nm_e ⟨hx, nm_r (e' := upd xnm (36 * r + 6 * a + b) v4) (by rw [ec]) ?_⟩⟩))))
      refine sy_reg_t hr (br_f (by decide) (sy_place_t hr p2 p3 s2 s4 ha hb (br_f (by decide) ⟨hy, nm_e ⟨hy, nm_r (e' := upd yce (36 * r + 6 * a + b) v4) (by rw [iy, ec]) ⟨?_, ?_⟩⟩⟩)))
      · rw [iy, ec]
        exact (G.2.1 _ (by omega)).symm
      · exact sf_mk (sf_Regs_put hr G p1 p2 p3 p4 S' O ha hb v4) (sf_Form_cg F (fun k h1 _ => pk_un (by omega)) (fun _ _ _ => rfl) (fun _ _ _ => rfl))
    · exact sx_reg_t hr (br_f (by decide) (sx_place_f hr a2 a3 s2 s4 hp (br_t rfl (sy_reg_t hr (br_f (by decide) (sy_place_f hr p2 p3 s2 s4 hp (br_t rfl ⟨rfl, I0⟩)))))))
  · exact sx_reg_f hr (br_t rfl (sy_reg_f hr (br_t rfl ⟨rfl, I0⟩)))
theorem i_vc_length {k : Nat} {u : SX} {v : SY} (I : i_Rel k u v) (hk : k + 5 ≤ 2560) (v1 : Int32) (v2 : Int32) : wpX_length (fun r => wpY_length (fun r' => r' = r ∧ i_Rel (k + 5) u v) v v1 v2) u v1 v2 := by
  obtain ⟨xP, xD, xC, xrk, xrw, xcl, xfm, xnm, xk, xa, xcp, xfi, xse, xsp, xin, xva⟩ := u
  obtain ⟨yP, yA, yD, yrk, yrw, ywi, yfm, yce, ykd, ynu, ysz, yva, yfi, yse, yat, ysp⟩ := v
  have I0 := I
  obtain ⟨n, c, d, ⟨rfl, rfl, rfl, rfl, rfl, rfl⟩, G, F⟩ := I
  unfold wpX_length wpY_length
  dsimp only
  by_cases hr : sf_rg v1
  · obtain ⟨r, hr, rfl⟩ := hr
    obtain ⟨q, h, w, f, a1, a2, a3, a4, p1, p2, p3, p4, S, O, O2⟩ := sf_reg G hr
    have hx : vp_in (nI r) 6 := vp_in_nI hr (by decide)
    have hy : vp_in (nI r) 13 := vp_in_nI (by omega) (by decide)
    have ec : (nI r).toNatClampNeg = r := nI_clamp (by omega)
    refine sx_reg_t hr (br_f (by decide) (br_c (fun h1 => ?_) (fun h1 => br_c (fun h2 => br_c (fun h3 => ⟨hx, ?_⟩) (fun h3 => ⟨hx, ?_⟩)) (fun h2 => ?_))))
    · exact sy_reg_t hr (br_f (by decide) (br_t h1 ⟨rfl, I0⟩))
    · exact sy_reg_t hr (br_f (by decide) (br_f h1 (br_t h2 (br_t h3 ⟨hy, by rw [ec, a2, p2], I0⟩))))
    · exact sy_reg_t hr (br_f (by decide) (br_f h1 (br_t h2 (br_f h3 ⟨hy, by rw [ec, a3, p3], I0⟩))))
    · exact sy_reg_t hr (br_f (by decide) (br_f h1 (br_f h2 ⟨rfl, I0⟩)))
  · exact sx_reg_f hr (br_t rfl (sy_reg_f hr (br_t rfl ⟨rfl, I0⟩)))
theorem i_vc_scrap {k : Nat} {u : SX} {v : SY} (I : i_Rel k u v) (hk : k + 5 ≤ 2560) : wpX_scrap (fun u' => wpY_scrap (fun v' => i_Rel (k + 5) u' v') v) u := by
  obtain ⟨xP, xD, xC, xrk, xrw, xcl, xfm, xnm, xk, xa, xcp, xfi, xse, xsp, xin, xva⟩ := u
  obtain ⟨yP, yA, yD, yrk, yrw, ywi, yfm, yce, ykd, ynu, ysz, yva, yfi, yse, yat, ysp⟩ := v
  obtain ⟨n, c, d, ⟨rfl, rfl, rfl, rfl, rfl, rfl⟩, G, F⟩ := I
  unfold wpX_scrap wpY_scrap wpX_emptyStack
  dsimp only
  exact sf_mk (n := 0) (c := 0) (d := 0) G (sf_Form_0 _ _ _ _ _ _ _ _ _ _ _ _ _ _)
