theorem sf_Sh_f {q h w f j : Nat} (S : sf_Sh q h w f) (hj : j ≤ sf_fm q) : sf_Sh q h w j := by
  obtain ⟨s1, s2, s3, s4, s5⟩ := S
  unfold sf_fm at hj
  refine ⟨s1, s2, s3, s4, ?_⟩
  rcases s5 with ⟨rfl, z⟩ | ⟨rfl, z⟩ | ⟨rfl, z⟩
  · rw [if_pos rfl] at hj; omega
  · rw [if_neg (by omega), if_pos rfl] at hj; omega
  · rw [if_neg (by omega), if_neg (by omega)] at hj; omega
theorem sf_Sh_k {q h w f : Nat} (S : sf_Sh q h w f) : q ≤ 2 := by
  obtain ⟨s1, s2, s3, s4, s5⟩ := S
  omega
theorem i_vc_format {k : Nat} {u : SX} {v : SY} (I : i_Rel k u v) (hk : k + 5 ≤ 2560) (v1 : Int32) (v2 : Int32) : wpX_format (fun r u' => wpY_format (fun r' v' => r' = r ∧ i_Rel (k + 5) u' v') v v1 v2) u v1 v2 := by
  obtain ⟨xP, xD, xC, xrk, xrw, xcl, xfm, xnm, xk, xa, xcp, xfi, xse, xsp, xin, xva⟩ := u
  obtain ⟨yP, yA, yD, yrk, yrw, ywi, yfm, yce, ykd, ynu, ysz, yva, yfi, yse, yat, ysp⟩ := v
  have I0 := I
  obtain ⟨n, c, d, ⟨rfl, rfl, rfl, rfl, rfl, rfl⟩, G, F⟩ := I
  unfold wpX_format wpY_format
  dsimp only
  by_cases hr : sf_rg v1
  · obtain ⟨r, hr, rfl⟩ := hr
    obtain ⟨q, h, w, f, a1, a2, a3, a4, p1, p2, p3, p4, S, O, O2⟩ := sf_reg G hr
    have hx : vp_in (nI r) 6 := vp_in_nI hr (by decide)
    have hy : vp_in (nI r) 13 := vp_in_nI (by omega) (by decide)
    have ec : (nI r).toNatClampNeg = r := nI_clamp (by omega)
    rw [ec, a1, p1]
    by_cases hf : sf_fg q v2
    · obtain ⟨j, hj, rfl⟩ := hf
      have S' := sf_Sh_f S hj
      refine sx_reg_t hr (br_f (by decide) ⟨hx, sx_fmt_t (sf_Sh_k S) hj (br_f (by decide) ⟨hx, nm_e (sx_room hr a1 a2 a3 pk_us S' ?_)⟩)⟩)
      refine sy_reg_t hr (br_f (by decide) ⟨hy, sy_fmt_t (sf_Sh_k S) hj (br_f (by decide) ⟨hy, nm_e (sy_room hr p1 p2 p3 pk_us S' O ⟨?_, ?_⟩)⟩)⟩)
      · exact sf_roomv_cg S.2.1 S.2.2.2.1 (fun i hi => (G.2.1 _ (by omega)).symm)
      · exact sf_mk (sf_Regs_fmt hr G p1 p2 p3 S' O) F
    · exact sx_reg_t hr (br_f (by decide) ⟨hx, sx_fmt_f (sf_Sh_k S) hf (br_t rfl (sy_reg_t hr (br_f (by decide) ⟨hy, sy_fmt_f (sf_Sh_k S) hf (br_t rfl ⟨rfl, I0⟩)⟩)))⟩)
  · exact sx_reg_f hr (br_t rfl (sy_reg_f hr (br_t rfl ⟨rfl, I0⟩)))
theorem i_vc_room {k : Nat} {u : SX} {v : SY} (I : i_Rel k u v) (hk : k + 5 ≤ 2560) (v1 : Int32) : wpX_room (fun r => wpY_room (fun r' => r' = r ∧ i_Rel (k + 5) u v) v v1) u v1 := by
  obtain ⟨xP, xD, xC, xrk, xrw, xcl, xfm, xnm, xk, xa, xcp, xfi, xse, xsp, xin, xva⟩ := u
  obtain ⟨yP, yA, yD, yrk, yrw, ywi, yfm, yce, ykd, ynu, ysz, yva, yfi, yse, yat, ysp⟩ := v
  have I0 := I
  obtain ⟨n, c, d, ⟨rfl, rfl, rfl, rfl, rfl, rfl⟩, G, F⟩ := I
  unfold wpX_room wpY_room
  dsimp only
  by_cases hr : sf_rg v1
  · obtain ⟨r, hr, rfl⟩ := hr
    obtain ⟨q, h, w, f, a1, a2, a3, a4, p1, p2, p3, p4, S, O, O2⟩ := sf_reg G hr
    refine sx_reg_t hr (br_f (by decide) (sx_room hr a1 a2 a3 a4 S ?_))
    refine sy_reg_t hr (br_f (by decide) (sy_room hr p1 p2 p3 p4 S O ⟨?_, I0⟩))
    exact sf_roomv_cg S.2.1 S.2.2.2.1 (fun i hi => (G.2.1 _ (by omega)).symm)
  · exact sx_reg_f hr (br_t rfl (sy_reg_f hr (br_t rfl ⟨rfl, I0⟩)))
theorem i_vc_filled {k : Nat} {u : SX} {v : SY} (I : i_Rel k u v) (hk : k + 5 ≤ 2560) (v1 : Int32) : wpX_filled (fun r => wpY_filled (fun r' => r' = r ∧ i_Rel (k + 5) u v) v v1) u v1 := by
  obtain ⟨xP, xD, xC, xrk, xrw, xcl, xfm, xnm, xk, xa, xcp, xfi, xse, xsp, xin, xva⟩ := u
  obtain ⟨yP, yA, yD, yrk, yrw, ywi, yfm, yce, ykd, ynu, ysz, yva, yfi, yse, yat, ysp⟩ := v
  have I0 := I
  obtain ⟨n, c, d, ⟨rfl, rfl, rfl, rfl, rfl, rfl⟩, G, F⟩ := I
  unfold wpX_filled wpY_filled
  dsimp only
  by_cases hr : sf_rg v1
  · obtain ⟨r, hr, rfl⟩ := hr
    obtain ⟨q, h, w, f, a1, a2, a3, a4, p1, p2, p3, p4, S, O, O2⟩ := sf_reg G hr
    refine sx_reg_t hr (br_f (by decide) (sx_cf hr ?_))
    refine sy_reg_t hr (br_f (by decide) (sy_cf hr p2 p3 S.2.1 S.2.2.2.1 O ⟨?_, I0⟩))
    exact sm_cg 36 (fun i hi => by rw [G.2.1 _ (by omega)])
  · exact sx_reg_f hr (br_t rfl (sy_reg_f hr (br_t rfl ⟨rfl, I0⟩)))
/-- the set of the filled columns of a line -/
def sf_pt (g : Nat → Int32) : Nat → Nat
  | 0 => 0
  | j + 1 => sf_pt g j + (if g j = 0 then 0 else 2 ^ j)
theorem sf_pt_lt (g : Nat → Int32) : ∀ j, sf_pt g j < 2 ^ j := by
  intro j
  induction j with
  | zero => exact Nat.one_pos
  | succ j ih =>
    show sf_pt g j + (if g j = 0 then 0 else 2 ^ j) < 2 ^ (j + 1)
    rw [Nat.pow_succ]
    split <;> omega
theorem sf_pat : ∀ j, j < 6 → ∀ s, s < 64 → s < 2 ^ j → nI s + ((1 : Int32) <<< (nI j &&& 31)) = nI (s + 2 ^ j) ∧ nI s ||| ((1 : Int32) <<< (nI j &&& 31)) = nI (s + 2 ^ j) := by decide +kernel
theorem sf_pt64 (g : Nat → Int32) {j : Nat} (hj : j < 6) : sf_pt g j < 64 := by
  have h1 := sf_pt_lt g j
  have h2 : ∀ j, j < 6 → 2 ^ j < 64 := by decide
  have := h2 j hj
  omega
theorem sx_pat {post : Int32 → Prop} {xP xD xC : Int32} {xrk xrw xcl xfm xnm xk xa xcp xfi xse xsp xin xva : Nat → Int32} {r i w : Nat} (hr : r < 6) (hi : i < 6) (e2 : xcl r = nI w) (hw : w ≤ 6) (p : post (nI (sf_pt (fun j => xnm (36 * r + (6 * i + j))) w))) : ∃ n, wX_pattern_32 post (nI r) (nI i) xP xD xC xrk xrw xcl xfm xnm xk xa xcp xfi xse xsp xin xva n 0 0 := by
  have hv : vp_in (nI r) 6 := vp_in_nI hr (by decide)
  have ec : (nI r).toNatClampNeg = r := nI_clamp (by omega)
  refine pk_loop (fun n j (s : Int32) => wX_pattern_32 post (nI r) (nI i) xP xD xC xrk xrw xcl xfm xnm xk xa xcp xfi xse xsp xin xva n s (nI j)) (fun j s => s = nI (sf_pt (fun j => xnm (36 * r + (6 * i + j))) j)) w 0 0 (by omega) rfl (fun n s hs => ⟨hv, br_t (by rw [ec, e2]; exact nI_le (by omega) (by omega)) (by rw [hs]; exact p)⟩) (fun n j s hj hs k => ⟨hv, br_f (by rw [ec, e2]; exact nI_ge hj (by omega)) ?_⟩)
  have e : nI r * 36 + nI i * 6 + nI j = nI (36 * r + 6 * i + j) := sf_xi r i j
  have ec2 : (nI (36 * r + 6 * i + j)).toNatClampNeg = 36 * r + (6 * i + j) := by rw [nI_clamp (by omega)]; omega
  rw [e, ec2]
  refine ⟨vp_in_nI (by omega) (by decide), br_c (fun z => nm_r (nI_1 j) (k s ?_)) (fun z => nm_r (e' := nI (sf_pt (fun j => xnm (36 * r + (6 * i + j))) (j + 1))) ?_ (nm_r (nI_1 j) (k _ rfl)))⟩
  · rw [hs]
    show _ = nI (_ + (if xnm (36 * r + (6 * i + j)) = 0 then 0 else 2 ^ j))
    rw [if_pos z, Nat.add_zero]
  · rw [hs, (sf_pat j (by omega) _ (sf_pt64 _ (by omega)) (sf_pt_lt _ j)).1]
    show _ = nI (_ + (if xnm (36 * r + (6 * i + j)) = 0 then 0 else 2 ^ j))
    rw [if_neg z]
theorem sy_pat {post : Int32 → Prop} {yP yA yD : Int32} {yrk yrw ywi yfm yce ykd ynu ysz yva yfi yse yat ysp : Nat → Int32} {r i w : Nat} (hr : r < 6) (hi : i < 6) (e2 : ywi r = nI w) (hw : w ≤ 6) (p : post (nI (sf_pt (fun j => yce (36 * r + (6 * i + j))) w))) : ∃ n, wY_pattern_33 post (nI r) (nI i) yP yA yD yrk yrw ywi yfm yce ykd ynu ysz yva yfi yse yat ysp n 0 0 := by
  have hv : vp_in (nI r) 13 := vp_in_nI (by omega) (by decide)
  have ec : (nI r).toNatClampNeg = r := nI_clamp (by omega)
  refine pk_loop (fun n j (s : Int32) => wY_pattern_33 post (nI r) (nI i) yP yA yD yrk yrw ywi yfm yce ykd ynu ysz yva yfi yse yat ysp n s (nI j)) (fun j s => s = nI (sf_pt (fun j => yce (36 * r + (6 * i + j))) j)) w 0 0 (by omega) rfl (fun n s hs => ⟨hv, br_t (by rw [ec, e2]; exact nI_le (by omega) (by omega)) (by rw [hs]; exact p)⟩) (fun n j s hj hs k => ⟨hv, br_f (by rw [ec, e2]; exact nI_ge hj (by omega)) ?_⟩)
  have e : 36 * nI r + 6 * nI i + nI j = nI (36 * r + 6 * i + j) := sf_yi r i j
  have ec2 : (nI (36 * r + 6 * i + j)).toNatClampNeg = 36 * r + (6 * i + j) := by rw [nI_clamp (by omega)]; omega
  rw [e, ec2]
  refine ⟨vp_in_nI (by omega) (by decide), br_c (fun z => nm_r (nI_1 j) (k s ?_)) (fun z => nm_r (e' := nI (sf_pt (fun j => yce (36 * r + (6 * i + j))) (j + 1))) ?_ (nm_r (nI_1 j) (k _ rfl)))⟩
  · rw [hs]
    show _ = nI (_ + (if yce (36 * r + (6 * i + j)) = 0 then 0 else 2 ^ j))
    rw [if_pos z, Nat.add_zero]
  · rw [hs, (sf_pat j (by omega) _ (sf_pt64 _ (by omega)) (sf_pt_lt _ j)).2]
    show _ = nI (_ + (if yce (36 * r + (6 * i + j)) = 0 then 0 else 2 ^ j))
    rw [if_neg z]
theorem sf_pt_cg {g g' : Nat → Int32} : ∀ w, (∀ j, j < w → g j = g' j) → sf_pt g w = sf_pt g' w := by
  intro w
  induction w with
  | zero => intro _; rfl
  | succ w ih =>
    intro h
    show sf_pt g w + (if g w = 0 then 0 else 2 ^ w) = sf_pt g' w + (if g' w = 0 then 0 else 2 ^ w)
    rw [ih (fun j hj => h j (by omega)), h w (by omega)]
theorem i_vc_pattern {k : Nat} {u : SX} {v : SY} (I : i_Rel k u v) (hk : k + 5 ≤ 2560) (v1 : Int32) (v2 : Int32) : wpX_pattern (fun r => wpY_pattern (fun r' => r' = r ∧ i_Rel (k + 5) u v) v v1 v2) u v1 v2 := by
  obtain ⟨xP, xD, xC, xrk, xrw, xcl, xfm, xnm, xk, xa, xcp, xfi, xse, xsp, xin, xva⟩ := u
  obtain ⟨yP, yA, yD, yrk, yrw, ywi, yfm, yce, ykd, ynu, ysz, yva, yfi, yse, yat, ysp⟩ := v
  have I0 := I
  obtain ⟨n, c, d, ⟨rfl, rfl, rfl, rfl, rfl, rfl⟩, G, F⟩ := I
  unfold wpX_pattern wpY_pattern
  dsimp only
  by_cases hr : sf_rg v1
  · obtain ⟨r, hr, rfl⟩ := hr
    obtain ⟨q, h, w, f, a1, a2, a3, a4, p1, p2, p3, p4, S, O, O2⟩ := sf_reg G hr
    obtain ⟨s1, s2, s3, s4, s5⟩ := S
    have hx : vp_in (nI r) 6 := vp_in_nI hr (by decide)
    have hy : vp_in (nI r) 13 := vp_in_nI (by omega) (by decide)
    have ec : (nI r).toNatClampNeg = r := nI_clamp (by omega)
    rw [ec, a2, p2]
    by_cases h0 : v2 < 0
    · exact sx_reg_t hr (br_f (by decide) (br_t h0 (sy_reg_t hr (br_f (by decide) (br_t h0 ⟨rfl, I0⟩)))))
    · obtain ⟨i, hi, rfl⟩ := nI_of h0
      by_cases h1 : i < h
      · have h1' : nI i < nI h := nI_lt h1 (by omega)
        refine sx_reg_t hr (br_f (by decide) (br_f h0 ⟨hx, br_t h1' (sx_pat hr (by omega) a3 s4 ?_)⟩))
        refine sy_reg_t hr (br_f (by decide) (br_f h0 ⟨hy, br_t h1' (sy_pat hr (by omega) p3 s4 ⟨?_, I0⟩)⟩))
        exact congrArg nI (sf_pt_cg w (fun j hj => (G.2.1 _ (by omega)).symm))
      · have h1' : ¬ nI i < nI h := nI_nlt (by omega) (by omega)
        exact sx_reg_t hr (br_f (by decide) (br_f h0 ⟨hx, br_f h1' (sy_reg_t hr (br_f (by decide) (br_f h0 ⟨hy, br_f h1' ⟨rfl, I0⟩⟩)))⟩))
  · exact sx_reg_f hr (br_t rfl (sy_reg_f hr (br_t rfl ⟨rfl, I0⟩)))
