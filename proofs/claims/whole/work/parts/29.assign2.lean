theorem sy_spn {n c : Nat} {xk xa xcp xfi xse xsp yce ykd ynu ysz yfi yse yrw ywi B : Nat → Int32} (hB : ∀ p, p < 3 → B p = (if (1 : Nat) = 0 then 0 else xsp (3 * (1 - 1) + p))) : ∀ t, t < 3 → B t = xsp t := by
  intro t ht
  rw [hB t ht, if_neg (by omega), show 3 * (1 - 1) + t = t by omega]
/-- the reference's assign, once it has passed its checks -/
theorem sy_as_ok {post : Int32 → SY → Prop} {yA : Int32} {yrk yrw ywi yfm yce ykd ynu ysz yva yfi yse yat ysp : Nat → Int32} {n c to k j : Nat} {p q : Int32} {sp : Nat → Nat} {xk xa xcp xfi xse xsp : Nat → Int32} (F : sf_Form n c 1 xk xa xcp xfi xse xsp yce ykd ynu ysz yfi yse yrw ywi) (hto : to < 6) (ix : sf_ix k p q) (hk : k ≤ 2) (hj : j ≤ sf_fm k) (hsp : ∀ t, t < 3 → xsp t = nI (sp t)) (h6 : ∀ t, t < 3 → sp t ≤ 6) (np : ¬ sf_ms xsp p) (nq : ¬ sf_ms xsp q)
    (K : ∀ ysp yat yva, wpY_countRoom (fun r => post r (0, 0, 0, upd yrk to (nI k), upd yrw to (nI (sf_l (sf_at p sp))), upd ywi to (nI (sf_l (sf_at q sp))), upd yfm to (nI j), sf_C ykd ynu ysz xa xcp xfi xse (sf_y0 to yce) n to (sf_l (sp 1)) (sf_l (sp 2)) p q (sf_l (sp 0) * sf_l (sp 1) * sf_l (sp 2)), ykd, ynu, ysz, yva, yfi, yse, yat, ysp)) (0, 0, 0, upd yrk to (nI k), upd yrw to (nI (sf_l (sf_at p sp))), upd ywi to (nI (sf_l (sf_at q sp))), upd yfm to (nI j), sf_C ykd ynu ysz xa xcp xfi xse (sf_y0 to yce) n to (sf_l (sp 1)) (sf_l (sp 2)) p q (sf_l (sp 0) * sf_l (sp 1) * sf_l (sp 2)), ykd, ynu, ysz, yva, yfi, yse, yat, ysp) (nI to)) :
    wY_assign_60 post (nI to) p q (nI j) (nI k) (nI n) yA (nI 1) yrk yrw ywi yfm yce ykd ynu ysz yva yfi yse yat ysp := by
  obtain ⟨hid1, hid2, _⟩ := sf_ix_id ix
  have l0 := sf_l_in (h6 0 (by omega))
  have l1 := sf_l_in (h6 1 (by omega))
  have l2 := sf_l_in (h6 2 (by omega))
  obtain ⟨w1, w2, w3, w4⟩ := sf_hw hsp h6 ix np nq
  have F' := F
  obtain ⟨f1, f2, f3, f4, f5, f6, f7⟩ := F
  unfold wY_assign_60
  dsimp only
  refine sy_fmt_t hk hj (br_f (by decide) (br_t rfl (sy_find F' (fun B hB => ?_))))
  have hB' : ∀ t, t < 3 → B t = xsp t := sy_spn (n := n) (c := c) (xk := xk) (xa := xa) (xcp := xcp) (xfi := xfi) (xse := xse) (yce := yce) (ykd := ykd) (ynu := ynu) (ysz := ysz) (yfi := yfi) (yse := yse) (yrw := yrw) (ywi := ywi) hB
  have hBs : ∀ t, t < 3 → B t = nI (sp t) := fun t ht => (hB' t ht).trans (hsp t ht)
  dsimp only
  refine sy_ms hB' hid1 (fun z => absurd z np) (fun _ => br_t rfl (sy_ms hB' hid2 (fun z => absurd z nq) (fun _ => br_t rfl ?_)))
  have Q168 : wY_assign_168 post (nI to) p q (nI j) (nI (sf_at q sp)) (nI (sf_at p sp)) (nI to) (nI n) yA (nI 1) yrk yrw ywi yfm yce ykd ynu ysz yva yfi yse yat B := by
    refine sy_shapeN (by omega) w1 w2 (fun C hC => ?_)
    have eC := sf_y0_eq hC
    subst eC
    rw [w4]
    dsimp only
    refine sf_l_step (Q := fun z => wY_assign_192 post (nI to) p q z (nI n) yA (nI 1) (upd yrk to (nI k)) (upd yrw to (nI (sf_l (sf_at p sp)))) (upd ywi to (nI (sf_l (sf_at q sp)))) (upd yfm to (nI j)) (sf_y0 to yce) ykd ynu ysz yva yfi yse yat B) (hBs 0 (by omega)) (h6 0 (by omega)) ?_
    refine sf_l_step (Q := fun z => wY_assign_213 post (nI to) p q (nI (sf_l (sp 0))) z (nI n) yA (nI 1) (upd yrk to (nI k)) (upd yrw to (nI (sf_l (sf_at p sp)))) (upd ywi to (nI (sf_l (sf_at q sp)))) (upd yfm to (nI j)) (sf_y0 to yce) ykd ynu ysz yva yfi yse yat B) (hBs 1 (by omega)) (h6 1 (by omega)) ?_
    refine sf_l_stepE (Q := fun z => ∃ m, wY_assign_239 post (nI to) p q (nI (sf_l (sp 0))) (nI (sf_l (sp 1))) z m 0 (nI n) yA (nI 1) (upd yrk to (nI k)) (upd yrw to (nI (sf_l (sf_at p sp)))) (upd ywi to (nI (sf_l (sf_at q sp)))) (upd yfm to (nI j)) (sf_y0 to yce) ykd ynu ysz yva yfi yse yat B) (hBs 2 (by omega)) (h6 2 (by omega)) ?_
    exact sy_add239 f1 f2 f5 (sf_Cps_cg f2 f6 (fun i g1 g2 => sf_y0_out (by omega)) (fun a ha => pk_un (by omega)) (fun a ha => pk_un (by omega))) f4 hto hid1 hid2 l0.2 l1.2 l2.2 l1.1 l2.1 (fun yat yva => K B yat yva)
  refine br_f ?_ (br_f ?_ (br_t ?_ ?_))
  · rw [hBs 0 (by omega)]; exact nI_pos (by have := h6 0 (by omega); omega)
  · rw [hBs 1 (by omega)]; exact nI_pos (by have := h6 1 (by omega); omega)
  · rw [hBs 2 (by omega)]; exact nI_pos' (by have := h6 2 (by omega); omega)
  · refine sy_hg (Q := fun z => wY_assign_154 post (nI to) p q (nI j) z (nI to) (nI n) yA (nI 1) yrk yrw ywi yfm yce ykd ynu ysz yva yfi yse yat B) hid1 hBs ?_
    exact sy_hg (Q := fun z => wY_assign_168 post (nI to) p q (nI j) z (nI (sf_at p sp)) (nI to) (nI n) yA (nI 1) yrk yrw ywi yfm yce ykd ynu ysz yva yfi yse yat B) hid2 hBs Q168
