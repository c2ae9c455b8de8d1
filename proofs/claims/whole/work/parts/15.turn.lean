theorem sx_swap {post : SX → Prop} {xP xD xC : Int32} {xrk xrw xcl xfm xnm xk xa xcp xfi xse xsp xin xva : Nat → Int32} {r : Nat} (hr : r < 6) (p : ∀ A, sf_sw r 6 0 xnm A → post (xP, xD, xC, xrk, xrw, xcl, xfm, A, xk, xa, xcp, xfi, xse, xsp, xin, xva)) : wpX_swapAcrossDiagonal post (xP, xD, xC, xrk, xrw, xcl, xfm, xnm, xk, xa, xcp, xfi, xse, xsp, xin, xva) (nI r) := by
  unfold wpX_swapAcrossDiagonal
  dsimp only
  refine pk_loop (fun n i (A : Nat → Int32) => wX_swapAcrossDiagonal_2 post (nI r) xP xD xC n (nI i) xrk xrw xcl xfm A xk xa xcp xfi xse xsp xin xva) (fun i A => sf_sw r i 0 xnm A) 6 0 xnm (by omega) (sf_sw_0 r xnm) (fun n A hA => br_t (nI_le (a := 6) (b := 6) (by omega) (by decide)) (p A hA)) (fun n i A hi hA k => br_f (nI_ge (b := 6) hi (by decide)) ?_)
  refine pk_loop (fun m j (A : Nat → Int32) => wX_swapAcrossDiagonal_10 post (wX_swapAcrossDiagonal_2 post (nI r) xP xD xC n) (nI r) (nI i) xP xD xC m (nI j) xrk xrw xcl xfm A xk xa xcp xfi xse xsp xin xva) (fun j A => sf_sw r i j xnm A) i 0 A (by omega) hA (fun m A hA => br_t (nI_le (a := i) (b := i) (by omega) (by omega)) (nm_r (nI_1 i) (k A (sf_sw_n hA)))) (fun m j A hj hA k => br_f (nI_ge hj (by omega)) ?_)
  have c1 : (nI (36 * r + 6 * i + j)).toNatClampNeg = 36 * r + 6 * i + j := nI_clamp (by omega)
  have c2 : (nI (36 * r + 6 * j + i)).toNatClampNeg = 36 * r + 6 * j + i := nI_clamp (by omega)
  have v1 : vp_in (nI (36 * r + 6 * i + j)) 216 := vp_in_nI (by omega) (by decide)
  have v2 : vp_in (nI (36 * r + 6 * j + i)) 216 := vp_in_nI (by omega) (by decide)
  refine nm_r (sf_xi r i j) (nm_r (sf_xi r j i) ⟨v1, nm_r (e' := A (36 * r + 6 * i + j)) (by rw [c1]) ⟨v2, v1, nm_r (e' := upd A (36 * r + 6 * i + j) (A (36 * r + 6 * j + i))) (by rw [c1, c2]) ⟨v2, nm_r (e' := upd (upd A (36 * r + 6 * i + j) (A (36 * r + 6 * j + i))) (36 * r + 6 * j + i) (A (36 * r + 6 * i + j))) (by rw [c2]) (nm_r (nI_1 j) (k _ (sf_sw_s hA hj hi)))⟩⟩⟩)
theorem sy_copy {post : SY → Prop} {yP yA yD : Int32} {yrk yrw ywi yfm yce ykd ynu ysz yva yfi yse yat ysp : Nat → Int32} {s t : Nat} (hs : s < 13) (ht : t < 13) (hne : s ≠ t) (p : ∀ A, sf_blk (36 * t) 36 (fun i => yce (36 * s + i)) yce A → post (yP, yA, yD, upd yrk t (yrk s), upd yrw t (yrw s), upd ywi t (ywi s), upd yfm t (yfm s), A, ykd, ynu, ysz, yva, yfi, yse, yat, ysp)) : wpY_copy post (yP, yA, yD, yrk, yrw, ywi, yfm, yce, ykd, ynu, ysz, yva, yfi, yse, yat, ysp) (nI s) (nI t) := by
  have v1 : vp_in (nI s) 13 := vp_in_nI hs (by decide)
  have v2 : vp_in (nI t) 13 := vp_in_nI ht (by decide)
  have c1 : (nI s).toNatClampNeg = s := nI_clamp (by omega)
  have c2 : (nI t).toNatClampNeg = t := nI_clamp (by omega)
  refine ⟨v1, v2, nm_r (e' := upd yrk t (yrk s)) (by rw [c1, c2]) ⟨v1, v2, nm_r (e' := upd yrw t (yrw s)) (by rw [c1, c2]) ⟨v1, v2, nm_r (e' := upd ywi t (ywi s)) (by rw [c1, c2]) ⟨v1, v2, nm_r (e' := upd yfm t (yfm s)) (by rw [c1, c2]) ?_⟩⟩⟩⟩
  refine pk_loop (fun n i (A : Nat → Int32) => wY_copy_50 post (nI s) (nI t) yP yA yD n (nI i) (upd yrk t (yrk s)) (upd yrw t (yrw s)) (upd ywi t (ywi s)) (upd yfm t (yfm s)) A ykd ynu ysz yva yfi yse yat ysp) (fun i A => sf_blk (36 * t) i (fun i => yce (36 * s + i)) yce A) 36 0 yce (by omega) (sf_blk_0 _ _ _) (fun n A hA => br_t (nI_le (a := 36) (b := 36) (by omega) (by decide)) (p A hA)) (fun n i A hi hA k => br_f (nI_ge (b := 36) hi (by decide)) ?_)
  have e1 : 36 * nI s + nI i = nI (36 * s + i) := sf_yp s i
  have e2 : 36 * nI t + nI i = nI (36 * t + i) := sf_yp t i
  have d1 : (nI (36 * s + i)).toNatClampNeg = 36 * s + i := nI_clamp (by omega)
  have d2 : (nI (36 * t + i)).toNatClampNeg = 36 * t + i := nI_clamp (by omega)
  refine ⟨by rw [e1]; exact vp_in_nI (by omega) (by decide), by rw [e2]; exact vp_in_nI (by omega) (by decide), nm_r (e' := upd A (36 * t + i) (A (36 * s + i))) (by rw [e1, e2, d1, d2]) (nm_r (nI_1 i) (k _ (sf_blk_s hA (hA.2 _ (by omega)))))⟩
theorem sy_turn97 {post : Int32 → SY → Prop} {yP yA yD : Int32} {yrk yrw ywi yfm yce ykd ynu ysz yva yfi yse yat ysp : Nat → Int32} {r : Nat} (hr : r < 6) (p : ∀ A, sf_tr r 36 (fun k => yce (432 + k)) yce A → post (yrw r) (yP, yA, yD, yrk, yrw, ywi, yfm, A, ykd, ynu, ysz, yva, yfi, yse, yat, ysp)) : ∃ n, wY_turn_97 post (nI r) yP yA yD n 0 yrk yrw ywi yfm yce ykd ynu ysz yva yfi yse yat ysp := by
  have hv : vp_in (nI r) 13 := vp_in_nI (by omega) (by decide)
  have ec : (nI r).toNatClampNeg = r := nI_clamp (by omega)
  refine pk_loop (fun n i (A : Nat → Int32) => wY_turn_97 post (nI r) yP yA yD n (nI i) yrk yrw ywi yfm A ykd ynu ysz yva yfi yse yat ysp) (fun i A => sf_tr r i (fun k => yce (432 + k)) yce A) 36 0 yce (by omega) (sf_tr_0 _ _ _) (fun n A hA => br_t (nI_le (a := 36) (b := 36) (by omega) (by decide)) ⟨hv, by rw [ec]; exact p A hA⟩) (fun n i A hi hA k => br_f (nI_ge (b := 36) hi (by decide)) ⟨by decide, by decide, ?_⟩)
  have e0 : 432 + nI i = nI (432 + i) := nI_add 432 i
  have e1 : nI i / 6 = nI (i / 6) := pk_div (d := 6) (by omega) (by decide) (by decide)
  have e2 : nI i - nI i / 6 * 6 = nI (i % 6) := pk_rem (d := 6) (by omega) (by decide) (by decide)
  have e3 : 36 * nI r + 6 * (nI i - nI i / 6 * 6) + nI i / 6 = nI (36 * r + 6 * (i % 6) + i / 6) := by
    rw [e2, e1]; exact sf_yi r (i % 6) (i / 6)
  have d1 : (nI (432 + i)).toNatClampNeg = 432 + i := nI_clamp (by omega)
  have d2 : (nI (36 * r + 6 * (i % 6) + i / 6)).toNatClampNeg = 36 * r + 6 * (i % 6) + i / 6 := nI_clamp (by omega)
  rw [e0, e3, d1, d2]
  exact ⟨vp_in_nI (by omega) (by decide), vp_in_nI (by omega) (by decide), nm_e (nm_r (nI_1 i) (k _ (sf_tr_s hA hi (hA.2 _ (by omega)))))⟩
theorem sf_tf (f : Nat) (hf : f ≤ 7) : ∃ g : Nat, g ≤ 7 ∧ (4 ≤ f → nI f - 4 = nI g) ∧ (¬ 4 ≤ f → nI f + 4 = nI g) := by
  by_cases h : 4 ≤ f
  · exact ⟨f - 4, by omega, fun _ => pk_sub (b := 4) h, fun z => absurd h z⟩
  · exact ⟨f + 4, by omega, fun z => absurd z h, fun _ => nI_add f 4⟩
theorem i_vc_turn {k : Nat} {u : SX} {v : SY} (I : i_Rel k u v) (hk : k + 5 ≤ 2560) (v1 : Int32) : wpX_turn (fun r u' => wpY_turn (fun r' v' => r' = r ∧ i_Rel (k + 5) u' v') v v1) u v1 := by
  obtain ⟨xP, xD, xC, xrk, xrw, xcl, xfm, xnm, xk, xa, xcp, xfi, xse, xsp, xin, xva⟩ := u
  obtain ⟨yP, yA, yD, yrk, yrw, ywi, yfm, yce, ykd, ynu, ysz, yva, yfi, yse, yat, ysp⟩ := v
  have I0 := I
  obtain ⟨n, c, d, ⟨rfl, rfl, rfl, rfl, rfl, rfl⟩, G, F⟩ := I
  unfold wpX_turn
  dsimp only
  by_cases hr : sf_rg v1
  · obtain ⟨r, hr, rfl⟩ := hr
    obtain ⟨q, h, w, f, a1, a2, a3, a4, p1, p2, p3, p4, S, O, O2⟩ := sf_reg G hr
    have S' := S
    obtain ⟨s1, s2, s3, s4, s5⟩ := S
    have hx : vp_in (nI r) 6 := vp_in_nI hr (by decide)
    have hy : vp_in (nI r) 13 := vp_in_nI (by omega) (by decide)
    have ec : (nI r).toNatClampNeg = r := nI_clamp (by omega)
    by_cases q2 : q = 2
    · subst q2
      obtain ⟨g, hg, g1, g2⟩ := sf_tf f (by omega)
      have YT : ∀ (A : Nat → Int32) (r0 : Int32), sf_sw r 6 0 xnm A → r0 = nI w → wpY_turn (fun r' v' => r' = r0 ∧ i_Rel (k + 5) (nI n, nI d, nI c, xrk, upd xrw r (nI w), upd xcl r (nI h), upd xfm r (nI g), A, xk, xa, xcp, xfi, xse, xsp, xin, xva) v') (nI n, nI c, nI d, yrk, yrw, ywi, yfm, yce, ykd, ynu, ysz, yva, yfi, yse, yat, ysp) (nI r) := by
        intro A r0 hA hr0
        obtain ⟨sw1, sw2⟩ := sf_sw_e hA
        unfold wpY_turn
        dsimp only
        rw [ec, p1]
        refine sy_reg_t hr (br_f (by decide) ⟨hy, br_t (by decide) (sy_copy (t := 12) (by omega) (by omega) (by omega) (fun B hB => ?_))⟩)
        dsimp only
        have t97 : ∃ n97 : Nat, wY_turn_97 (fun r' v' => r' = r0 ∧ i_Rel (k + 5) (nI n, nI d, nI c, xrk, upd xrw r (nI w), upd xcl r (nI h), upd xfm r (nI g), A, xk, xa, xcp, xfi, xse, xsp, xin, xva) v') (nI r) (nI n) (nI c) (nI d) n97 0 (upd yrk 12 (yrk r)) (upd (upd yrw 12 (yrw r)) r (nI w)) (upd (upd ywi 12 (ywi r)) r (nI h)) (upd (upd yfm 12 (yfm r)) r (nI g)) B ykd ynu ysz yva yfi yse yat ysp := by
          refine sy_turn97 hr (fun C hC => ⟨by rw [pk_us, hr0], sf_mk (sf_Regs_turn hr G p1 S' hg O sw1 sw2 (fun a b ha hb => ?_) (fun j hj hz => ?_) (fun s hs => ⟨pk_un (by omega), fun z => ⟨?_, ?_, ?_⟩⟩) ⟨pk_us, pk_us, pk_us⟩) (sf_Form_cg F (fun j h1 h2 => ?_) (fun s h1 h2 => ?_) (fun s h1 h2 => ?_))⟩)
          · rw [sf_tr_e hC a b ha hb]
            have := hB.1 (6 * b + a) (by omega)
            rw [show 36 * 12 + (6 * b + a) = 432 + (6 * b + a) by omega] at this
            rw [this]
            show yce (36 * r + (6 * b + a)) = _
            rw [← Nat.add_assoc]
          · rw [hC.2 j hz, hB.2 j (by omega)]
          · rw [pk_un z, pk_un (by omega)]
          · rw [pk_un z, pk_un (by omega)]
          · rw [pk_un z, pk_un (by omega)]
          · rw [hC.2 j (by omega), hB.2 j (by omega)]
          · rw [pk_un (by omega), pk_un (by omega)]
          · rw [pk_un (by omega), pk_un (by omega)]
        have n12 : (12 : Nat) ≠ r := by omega
        refine ⟨hy, nm_r (e' := upd (upd yrw 12 (yrw r)) r (nI w)) (by rw [pk_us, p3]) ⟨hy, nm_r (e' := upd (upd ywi 12 (ywi r)) r (nI h)) (by rw [pk_un n12, pk_us, p2]) ?_⟩⟩
        rw [pk_us, p4]
        refine br_c (fun z => ⟨hy, nm_r (e' := upd (upd yfm 12 (yfm r)) r (nI g)) ?_ ?_⟩) (fun z => ⟨hy, nm_r (e' := upd (upd yfm 12 (yfm r)) r (nI g)) ?_ ?_⟩)
        · rw [g1 ((nI_leI (a := 4) (by decide) (by omega)).mp z), p4]
        · exact t97
        · rw [g2 (fun y => z (nI_le (a := 4) y (by omega))), p4]
        · exact t97
      rw [ec, a1]
      refine sx_reg_t hr (br_f (by decide) ⟨hx, br_t rfl (sx_swap hr (fun A hA => ?_))⟩)
      dsimp only
      refine ⟨hx, nm_r (e' := nI h) a2 ⟨hx, hx, nm_r (e' := upd xrw r (nI w)) (by rw [a3]) ⟨hx, nm_e ⟨hx, ?_⟩⟩⟩⟩
      rw [a4]
      refine br_c (fun z => ⟨hx, hx, nm_r (e' := upd xfm r (nI g)) ?_ ⟨hx, ?_⟩⟩) (fun z => ⟨hx, hx, nm_r (e' := upd xfm r (nI g)) ?_ ⟨hx, ?_⟩⟩)
      · rw [g1 ((nI_leI (a := 4) (by decide) (by omega)).mp z)]
      · exact YT A _ hA pk_us
      · rw [g2 (fun y => z (nI_le (a := 4) y (by omega)))]
      · exact YT A _ hA pk_us
    · rw [ec, a1]
      refine sx_reg_t hr (br_f (by decide) ⟨hx, br_f (fun y => q2 ((nI_eq (b := 2) (by omega) (by decide)).mp y)) ?_⟩)
      unfold wpY_turn
      dsimp only
      rw [ec, p1]
      exact sy_reg_t hr (br_f (by decide) ⟨hy, br_f (nI_ge (b := 2) (by omega) (by decide)) ⟨rfl, I0⟩⟩)
  · refine sx_reg_f hr (br_t rfl ?_)
    unfold wpY_turn
    dsimp only
    exact sy_reg_f hr (br_t rfl ⟨rfl, I0⟩)
