theorem i_vc_assign {k : Nat} {u : SX} {v : SY} (I : i_Rel k u v) (hk : k + 5 ≤ 2560) (v1 : Int32) (v2 : Int32) (v3 : Int32) (v4 : Int32) : wpX_assign (fun r u' => wpY_assign (fun r' v' => r' = r ∧ i_Rel (k + 5) u' v') v v1 v2 v3 v4) u v1 v2 v3 v4 := by
  obtain ⟨xP, xD, xC, xrk, xrw, xcl, xfm, xnm, xk, xa, xcp, xfi, xse, xsp, xin, xva⟩ := u
  obtain ⟨yP, yA, yD, yrk, yrw, ywi, yfm, yce, ykd, ynu, ysz, yva, yfi, yse, yat, ysp⟩ := v
  have I0 := I
  obtain ⟨n, c, d, ⟨rfl, rfl, rfl, rfl, rfl, rfl⟩, G, F⟩ := I
  have F' := F
  obtain ⟨f1, f2, f3, f4, f5, f6, f7⟩ := F
  have hk2 := sf_rk2_le v2 v3
  refine sx_rk ?_
  unfold wX_assign_19
  dsimp only
  by_cases hr : sf_rg v1
  · obtain ⟨to, hto, rfl⟩ := hr
    by_cases hix : sf_ix (sf_rk2 v2 v3) v2 v3
    · obtain ⟨hid1, hid2, _⟩ := sf_ix_id hix
      by_cases hf : sf_fg (sf_rk2 v2 v3) v4
      · obtain ⟨j, hj, rfl⟩ := hf
        by_cases hd : d = 1
        · subst hd
          refine sx_reg_t hto (br_f (by decide) (sx_ix_t hix (br_f (by decide) (sx_fmt_t hk2 hj (br_f (by decide) (br_t rfl ?_))))))
          have YF : ∀ (post : Int32 → SY → Prop), (∀ B : Nat → Int32, (∀ t, t < 3 → B t = xsp t) → wpY_isMissing (fun r_95 => (r_95 = 0 → wpY_isMissing (fun r_113 => (r_113 = 0 → (B 0 < 0 → post (-1000000005) (nI n, nI c, nI 1, yrk, yrw, ywi, yfm, yce, ykd, ynu, ysz, yva, yfi, yse, yat, B)) ∧ (¬ B 0 < 0 → (B 1 < 0 → post (-1000000005) (nI n, nI c, nI 1, yrk, yrw, ywi, yfm, yce, ykd, ynu, ysz, yva, yfi, yse, yat, B)) ∧ (¬ B 1 < 0 → (0 ≤ B 2 → ((0 ≤ v2 → vp_in v2 3 ∧ wY_assign_154 post (nI to) v2 v3 (nI j) (B v2.toNatClampNeg) (nI to) (nI n) (nI c) (nI 1) yrk yrw ywi yfm yce ykd ynu ysz yva yfi yse yat B) ∧ (¬ 0 ≤ v2 → wY_assign_154 post (nI to) v2 v3 (nI j) 0 (nI to) (nI n) (nI c) (nI 1) yrk yrw ywi yfm yce ykd ynu ysz yva yfi yse yat B))) ∧ (¬ 0 ≤ B 2 → post (-1000000005) (nI n, nI c, nI 1, yrk, yrw, ywi, yfm, yce, ykd, ynu, ysz, yva, yfi, yse, yat, B))))) ∧ (¬ r_113 = 0 → post (-1000000004) (nI n, nI c, nI 1, yrk, yrw, ywi, yfm, yce, ykd, ynu, ysz, yva, yfi, yse, yat, B))) (nI n, nI c, nI 1, yrk, yrw, ywi, yfm, yce, ykd, ynu, ysz, yva, yfi, yse, yat, B) v3) ∧ (¬ r_95 = 0 → post (-1000000004) (nI n, nI c, nI 1, yrk, yrw, ywi, yfm, yce, ykd, ynu, ysz, yva, yfi, yse, yat, B))) (nI n, nI c, nI 1, yrk, yrw, ywi, yfm, yce, ykd, ynu, ysz, yva, yfi, yse, yat, B) v2) → wpY_assign post (nI n, nI c, nI 1, yrk, yrw, ywi, yfm, yce, ykd, ynu, ysz, yva, yfi, yse, yat, ysp) (nI to) v2 v3 (nI j) := by
            intro post P
            refine sy_as_gen hto (fun z => absurd hix z) (fun _ => ?_)
            unfold wY_assign_60
            dsimp only
            refine sy_fmt_t hk2 hj (br_f (by decide) (br_t rfl (sy_find F' (fun B hB => ?_))))
            exact P B (sy_spn (n := n) (c := c) (xk := xk) (xa := xa) (xcp := xcp) (xfi := xfi) (xse := xse) (yce := yce) (ykd := ykd) (ynu := ynu) (ysz := ysz) (yfi := yfi) (yse := yse) (yrw := yrw) (ywi := ywi) hB)
          refine sx_ms hid1 (fun m1 => ?_) (fun m1 => sx_ms hid2 (fun m2 => ?_) (fun m2 => ?_))
          · exact YF _ (fun B hB => sy_ms hB hid1 (fun _ => br_f (by decide) ⟨rfl, sf_mk G F'⟩) (fun z => absurd m1 z))
          · exact YF _ (fun B hB => sy_ms hB hid1 (fun z => absurd z m1) (fun _ => br_t rfl (sy_ms hB hid2 (fun _ => br_f (by decide) ⟨rfl, sf_mk G F'⟩) (fun z => absurd m2 z))))
          · have hok : ∀ t, t < 3 → sf_ok (xsp t) := by
              intro t ht
              have := sf_top_ok F' (by omega) t ht
              rw [show 3 * (1 - 1) + t = t by omega] at this
              exact this
            by_cases hneg : ∃ t, t < 3 ∧ xsp t = -1
            · have YM : wpY_assign (fun r' v' => r' = -1000000005 ∧ i_Rel (k + 5) (nI n, nI 1, nI c, xrk, xrw, xcl, xfm, xnm, xk, xa, xcp, xfi, xse, xsp, xin, xva) v') (nI n, nI c, nI 1, yrk, yrw, ywi, yfm, yce, ykd, ynu, ysz, yva, yfi, yse, yat, ysp) (nI to) v2 v3 (nI j) := by
                refine YF _ (fun B hB => sy_ms hB hid1 (fun z => absurd z m1) (fun _ => br_t rfl (sy_ms hB hid2 (fun z => absurd z m2) (fun _ => br_t rfl ?_))))
                refine br_c (fun _ => ⟨rfl, sf_mk G F'⟩) (fun z0 => br_c (fun _ => ⟨rfl, sf_mk G F'⟩) (fun z1 => br_c (fun z2 => ?_) (fun _ => ⟨rfl, sf_mk G F'⟩)))
                obtain ⟨t, ht, e⟩ := hneg
                exfalso
                rw [hB 0 (by omega)] at z0
                rw [hB 1 (by omega)] at z1
                rw [hB 2 (by omega)] at z2
                match t, ht, e with
                | 0, _, e => rw [e] at z0; exact z0 (by decide)
                | 1, _, e => rw [e] at z1; exact z1 (by decide)
                | 2, _, e => rw [e] at z2; exact absurd z2 (by decide)
              refine br_c (fun _ => YM) (fun z0 => br_c (fun _ => YM) (fun z1 => br_c (fun _ => YM) (fun z2 => ?_)))
              obtain ⟨t, ht, e⟩ := hneg
              exfalso
              match t, ht, e with
              | 0, _, e => exact z0 e
              | 1, _, e => exact z1 e
              | 2, _, e => exact z2 e
            · have hall : ∀ t, t < 3 → xsp t = nI (xsp t).toNatClampNeg ∧ (xsp t).toNatClampNeg ≤ 6 := by
                intro t ht
                rcases hok t ht with z | ⟨s, hs, z⟩
                · exact absurd ⟨t, ht, z⟩ hneg
                · rw [z, nI_clamp (by omega)]
                  exact ⟨rfl, hs⟩
              have hsp : ∀ t, t < 3 → xsp t = nI ((fun t => (xsp t).toNatClampNeg) t) := fun t ht => (hall t ht).1
              have h6 : ∀ t, t < 3 → (fun t => (xsp t).toNatClampNeg) t ≤ 6 := fun t ht => (hall t ht).2
              generalize (fun t => (xsp t).toNatClampNeg) = sp at hsp h6
              have l0 := sf_l_in (h6 0 (by omega))
              have l1 := sf_l_in (h6 1 (by omega))
              have l2 := sf_l_in (h6 2 (by omega))
              obtain ⟨w1, w2, w3, w4⟩ := sf_hw hsp h6 hix m1 m2
              have wl1 := sf_l_in w1
              have wl2 := sf_l_in w2
              have S' : sf_Sh (sf_rk2 v2 v3) (sf_l (sf_at v2 sp)) (sf_l (sf_at v3 sp)) j := by
                have := sf_Sh_mk (j := j) w1 w2 w3 (by rw [w4]; exact hj)
                rw [w4] at this
                exact this
              refine sx_as_ok f1 f2 f5 f6 f4 hto hix hsp h6 m1 m2 G.2.1 (fun A xin xva hA => sx_room hto pk_us pk_us pk_us pk_us S' ?_)
              have O : sf_Out (sf_l (sf_at v2 sp)) (sf_l (sf_at v3 sp)) (fun i => sf_C ykd ynu ysz xa xcp xfi xse (sf_y0 to yce) n to (sf_l (sp 1)) (sf_l (sp 2)) v2 v3 (sf_l (sp 0) * sf_l (sp 1) * sf_l (sp 2)) (36 * to + i)) := by
                refine sf_cel_O wl2.2 (fun i j hi hj _ => sf_y0_in (by omega)) _ (fun M hM => ?_)
                obtain ⟨t0, t1, t2⟩ := sf_tt_lt (l0 := sf_l (sp 0)) (N := M) (by omega) (by omega) hM
                have ht : ∀ t, t < 3 → sf_tt (sf_l (sp 1)) (sf_l (sp 2)) M t < sf_l (sp t) := sf_3 t0 t1 t2
                exact ⟨_, _, sf_hpl hid1 hsp m1 ht, sf_hpl hid2 hsp m2 ht, rfl⟩
              refine sy_as_gen hto (fun z => absurd hix z) (fun _ => sy_as_ok F' hto hix hk2 hj hsp h6 m1 m2 (fun ysp yat yva => sy_room hto pk_us pk_us pk_us pk_us S' O ⟨?_, ?_⟩))
              · exact sf_roomv_cg wl1.2 wl2.2 (fun i hi => (hA (36 * to + i) (by omega)).symm)
              · refine sf_mk (n := 0) (c := 0) (d := 0) (sf_Regs_upd hto G (fun s _ z => sf_up8 s z) hA (fun i hi hz => ?_) (sf_rk2 v2 v3) (sf_l (sf_at v2 sp)) (sf_l (sf_at v3 sp)) j ⟨pk_us, pk_us, pk_us, pk_us, pk_us, pk_us, pk_us, pk_us⟩ S' O) (sf_Form_0 _ _ _ _ _ _ _ _ _ _ _ _ _ _)
                rw [sf_C_o hid1 hid2 l0.2 l1.2 l2.2 l1.1 l2.1 (Nat.le_refl _) i hz, sf_y0_out hz]
        · have hd' : ¬ nI d = 1 := fun y => hd ((nI_eq (b := 1) (by omega) (by decide)).mp y)
          refine sx_reg_t hto (br_f (by decide) (sx_ix_t hix (br_f (by decide) (sx_fmt_t hk2 hj (br_f (by decide) (br_f hd' ?_))))))
          refine sy_as_gen hto (fun z => absurd hix z) (fun _ => ?_)
          unfold wY_assign_60
          dsimp only
          exact sy_fmt_t hk2 hj (br_f (by decide) (br_f hd' ⟨rfl, I0⟩))
      · refine sx_reg_t hto (br_f (by decide) (sx_ix_t hix (br_f (by decide) (sx_fmt_f hk2 hf (br_t rfl ?_)))))
        exact sy_as_gen hto (fun z => absurd hix z) (fun _ => sy_fmt_f hk2 hf (br_t rfl ⟨rfl, I0⟩))
    · refine sx_reg_t hto (br_f (by decide) (sx_ix_f hk2 hix (br_t rfl ?_)))
      exact sy_as_gen hto (fun _ => ⟨rfl, I0⟩) (fun z => absurd z hix)
  · refine sx_reg_f hr (br_t rfl ?_)
    have H : ∀ z, wY_assign_17 (fun r' v' => r' = -1000000001 ∧ i_Rel (k + 5) (nI n, nI d, nI c, xrk, xrw, xcl, xfm, xnm, xk, xa, xcp, xfi, xse, xsp, xin, xva) v') v1 v2 v3 v4 z (nI n) (nI c) (nI d) yrk yrw ywi yfm yce ykd ynu ysz yva yfi yse yat ysp := fun z => sy_reg_f hr (br_t rfl ⟨rfl, I0⟩)
    exact br_c (fun _ => br_c (fun _ => H _) (fun _ => H _)) (fun _ => H _)
