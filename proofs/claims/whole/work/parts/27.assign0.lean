theorem sf_Cps_cg {c : Nat} (hc : c ≤ 6) {xcp xfi xse yce yce' yfi yse yrw ywi yrw' ywi' : Nat → Int32} (h : sf_Cps c xcp xfi xse yce yfi yse yrw ywi) (h1 : ∀ k, 216 ≤ k → k < 432 → yce' k = yce k) (h2 : ∀ a, 6 ≤ a → yrw' a = yrw a) (h3 : ∀ a, 6 ≤ a → ywi' a = ywi a) : sf_Cps c xcp xfi xse yce' yfi yse yrw' ywi' := by
  intro a ha
  obtain ⟨b1, b2, b3, b4, b5, b6, b7, b8⟩ := h a ha
  refine ⟨fun k hk => ?_, b2, b3, b4, b5, b6, ?_, ?_⟩
  · rw [h1 _ (by omega) (by omega)]; exact b1 k hk
  · rw [h2 _ (by omega)]; exact b7
  · rw [h3 _ (by omega)]; exact b8
theorem sf_C_o {ykd ynu ysz xa xcp xfi xse y0 : Nat → Int32} {n to l0 l1 l2 : Nat} {p q : Int32} (hp1 : sf_id p) (hq1 : sf_id q) (hl0 : l0 ≤ 6) (hl1 : l1 ≤ 6) (hl2 : l2 ≤ 6) (h1 : 1 ≤ l1) (h2 : 1 ≤ l2) {N : Nat} (hN : N ≤ l0 * l1 * l2) : ∀ k, (k < 36 * to ∨ 36 * to + 36 ≤ k) → sf_C ykd ynu ysz xa xcp xfi xse y0 n to l1 l2 p q N k = y0 k := by
  refine sf_cel_o N (fun M hM => ?_)
  obtain ⟨t0, t1, t2⟩ := sf_tt_lt (l0 := l0) (N := M) (l1 := l1) (l2 := l2) (by omega) (by omega) (by omega)
  have h6 : ∀ t, t < 3 → sf_tt l1 l2 M t < 6 := sf_3 (by omega) (by omega) (by omega)
  have y1 := sf_at_lt hp1 h6
  have y2 := sf_at_lt hq1 h6
  exact ⟨by omega, by omega⟩
theorem sy_add239 {post : Int32 → SY → Prop} {yA yD : Int32} {yrk yrw ywi yfm yce ykd ynu ysz yva yfi yse yat ysp : Nat → Int32} {n c to l0 l1 l2 : Nat} {p q : Int32} {xk xa xcp xfi xse : Nat → Int32} (hn : n ≤ 20) (hc : c ≤ 6) (hp : ∀ i, i < n → sf_Pt c xk xa ykd ynu ysz i) (hs : sf_Cps c xcp xfi xse yce yfi yse yrw ywi) (hH : sf_H ykd n = 1) (hto : to < 6) (hp1 : sf_id p) (hq1 : sf_id q) (hl0 : l0 ≤ 6) (hl1 : l1 ≤ 6) (hl2 : l2 ≤ 6) (h1 : 1 ≤ l1) (h2 : 1 ≤ l2)
    (P : ∀ yat yva, wpY_countRoom (fun r => post r (0, 0, 0, yrk, yrw, ywi, yfm, sf_C ykd ynu ysz xa xcp xfi xse yce n to l1 l2 p q (l0 * l1 * l2), ykd, ynu, ysz, yva, yfi, yse, yat, ysp)) (0, 0, 0, yrk, yrw, ywi, yfm, sf_C ykd ynu ysz xa xcp xfi xse yce n to l1 l2 p q (l0 * l1 * l2), ykd, ynu, ysz, yva, yfi, yse, yat, ysp) (nI to)) :
    ∃ m, wY_assign_239 post (nI to) p q (nI l0) (nI l1) (nI l2) m 0 (nI n) yA yD yrk yrw ywi yfm yce ykd ynu ysz yva yfi yse yat ysp := by
  have hT : l0 * l1 * l2 ≤ 216 := Nat.mul_le_mul (Nat.mul_le_mul hl0 hl1) hl2
  have e0 : nI l0 * nI l1 * nI l2 = nI (l0 * l1 * l2) := by rw [pk_mul, pk_mul]
  refine pk_loop (fun m N (s : (Nat → Int32) × (Nat → Int32)) => wY_assign_239 post (nI to) p q (nI l0) (nI l1) (nI l2) m (nI N) (nI n) yA yD yrk yrw ywi yfm (sf_C ykd ynu ysz xa xcp xfi xse yce n to l1 l2 p q N) ykd ynu ysz s.2 yfi yse s.1 ysp) (fun _ _ => True) (l0 * l1 * l2) 0 (yat, yva) (by omega) trivial (fun m s _ => br_t (by rw [e0]; exact nI_le (by omega) (by omega)) (P s.1 s.2)) (fun m N s hN _ k => ?_)
  exact sy_add_step hn hc hp (sf_Cps_cg hc hs (fun j g1 g2 => sf_C_o hp1 hq1 hl0 hl1 hl2 h1 h2 (by omega) j (by omega)) (fun _ _ => rfl) (fun _ _ => rfl)) hH hto hp1 hq1 hl0 hl1 hl2 h1 h2 hT hN (fun yat' yva' => k (yat', yva') trivial)
/-- the cells after shape -/
def sf_y0 (to : Nat) (yce : Nat → Int32) : Nat → Int32 := fun k => if 36 * to ≤ k ∧ k < 36 * to + 36 then 0 else yce k
theorem sf_y0_in {to : Nat} {yce : Nat → Int32} {i : Nat} (h : i < 36) : sf_y0 to yce (36 * to + i) = 0 := if_pos ⟨by omega, by omega⟩
theorem sf_y0_out {to : Nat} {yce : Nat → Int32} {k : Nat} (h : k < 36 * to ∨ 36 * to + 36 ≤ k) : sf_y0 to yce k = yce k := if_neg (by omega)
theorem sf_y0_eq {to : Nat} {yce B : Nat → Int32} (h : sf_blk (36 * to) 36 (fun _ => 0) yce B) : B = sf_y0 to yce := by
  funext k
  by_cases z : 36 * to ≤ k ∧ k < 36 * to + 36
  · obtain ⟨i, rfl⟩ : ∃ i, k = 36 * to + i := ⟨k - 36 * to, by omega⟩
    rw [h.1 i (by omega), sf_y0_in (by omega)]
  · rw [h.2 k (by omega), sf_y0_out (by omega)]
theorem sf_y0_blk (to : Nat) (yce : Nat → Int32) : sf_blk (36 * to) 36 (fun _ => 0) yce (sf_y0 to yce) := ⟨fun i hi => sf_y0_in hi, fun k hk => sf_y0_out hk⟩
/-- an index that is asked for, but does not stand in the formula -/
def sf_ms (xsp : Nat → Int32) (p : Int32) : Prop := ∃ e : Nat, e < 3 ∧ p = nI e ∧ xsp e = 0
theorem sx_ms {xsp : Nat → Int32} {p : Int32} {G N : Prop} (hp : sf_id p) (n : sf_ms xsp p → N) (g : ¬ sf_ms xsp p → G) : (p = -1 → G) ∧ (¬ p = -1 → vp_in p 18 ∧ ((xsp p.toNatClampNeg = 0 → N) ∧ (¬ xsp p.toNatClampNeg = 0 → G))) := by
  rcases hp with rfl | ⟨e, he, rfl⟩
  · exact br_t rfl (g (fun ⟨e, he, z, _⟩ => sf_m1n he z.symm))
  · have ce : (nI e).toNatClampNeg = e := nI_clamp (by omega)
    rw [ce]
    refine br_f (sf_m1n he) ⟨vp_in_nI (by omega) (by decide), br_c (fun z => n ⟨e, he, rfl, z⟩) (fun z => g (fun ⟨e', he', y1, y2⟩ => z ?_))⟩
    have : e = e' := (nI_eq (by omega) (by omega)).mp y1
    rw [this]
    exact y2
theorem sy_ms {post : Int32 → Prop} {yP yA yD : Int32} {yrk yrw ywi yfm yce ykd ynu ysz yva yfi yse yat ysp : Nat → Int32} {xsp : Nat → Int32} {p : Int32} (hB : ∀ t, t < 3 → ysp t = xsp t) (hp : sf_id p) (n : sf_ms xsp p → post 1) (g : ¬ sf_ms xsp p → post 0) : wpY_isMissing post (yP, yA, yD, yrk, yrw, ywi, yfm, yce, ykd, ynu, ysz, yva, yfi, yse, yat, ysp) p := by
  rcases hp with rfl | ⟨e, he, rfl⟩
  · exact br_t (by decide) (g (fun ⟨e, he, z, _⟩ => sf_m1n he z.symm))
  · have ce : (nI e).toNatClampNeg = e := nI_clamp (by omega)
    unfold wpY_isMissing
    dsimp only
    rw [ce, hB e he]
    refine br_f (nI_pos (by omega)) ⟨vp_in_nI he (by decide), br_c (fun z => n ⟨e, he, rfl, z⟩) (fun z => g (fun ⟨e', he', y1, y2⟩ => z ?_))⟩
    have : e = e' := (nI_eq (by omega) (by omega)).mp y1
    rw [this]
    exact y2
def sf_rk2 (p q : Int32) : Nat := if p = -1 then 0 else if q = -1 then 1 else 2
theorem sf_rk2_le (p q : Int32) : sf_rk2 p q ≤ 2 := by
  unfold sf_rk2
  split
  · omega
  · split <;> omega
theorem sf_ix_rk {k : Nat} {p q : Int32} (h : sf_ix k p q) : sf_rk2 p q = k := by
  unfold sf_rk2
  rcases h with ⟨rfl, rfl, rfl⟩ | ⟨rfl, ⟨a, ha, rfl⟩, rfl⟩ | ⟨rfl, a, b, ha, hb, hab, rfl, rfl⟩
  · rw [if_pos rfl]
  · rw [if_neg (sf_m1n ha), if_pos rfl]
  · rw [if_neg (sf_m1n ha), if_neg (sf_m1n hb)]
theorem sx_rk {post : Int32 → SX → Prop} {xP xD xC : Int32} {xrk xrw xcl xfm xnm xk xa xcp xfi xse xsp xin xva : Nat → Int32} {v1 p q v4 : Int32} (h : wX_assign_19 post v1 p q v4 (nI (sf_rk2 p q)) xP xD xC xrk xrw xcl xfm xnm xk xa xcp xfi xse xsp xin xva) : wpX_assign post (xP, xD, xC, xrk, xrw, xcl, xfm, xnm, xk, xa, xcp, xfi, xse, xsp, xin, xva) v1 p q v4 := by
  unfold sf_rk2 at h
  refine br_c (fun z => ?_) (fun z => br_c (fun z2 => ?_) (fun z2 => ?_))
  · rw [if_pos z] at h; exact h
  · rw [if_neg z, if_pos z2] at h; exact h
  · rw [if_neg z, if_neg z2] at h; exact h
/-- the reference's checks of register and indices -/
theorem sy_as_gen {post : Int32 → SY → Prop} {yP yA yD : Int32} {yrk yrw ywi yfm yce ykd ynu ysz yva yfi yse yat ysp : Nat → Int32} {to : Nat} {p q v4 : Int32} (hto : to < 6) (bad : ¬ sf_ix (sf_rk2 p q) p q → post (-1000000001) (yP, yA, yD, yrk, yrw, ywi, yfm, yce, ykd, ynu, ysz, yva, yfi, yse, yat, ysp)) (good : sf_ix (sf_rk2 p q) p q → wY_assign_60 post (nI to) p q v4 (nI (sf_rk2 p q)) yP yA yD yrk yrw ywi yfm yce ykd ynu ysz yva yfi yse yat ysp) : wpY_assign post (yP, yA, yD, yrk, yrw, ywi, yfm, yce, ykd, ynu, ysz, yva, yfi, yse, yat, ysp) (nI to) p q v4 := by
  have m1 : ¬ (0 : Int32) ≤ -1 := by decide
  have m2 : (-1 : Int32) < 0 := by decide
  by_cases hp : sf_id p
  · by_cases hq : sf_id q
    · rcases sf_ge0 hp with ⟨rfl, z⟩ | ⟨a, ha, rfl, z⟩
      · rcases sf_ge0 hq with ⟨rfl, y⟩ | ⟨b, hb, rfl, y⟩
        · exact br_f m1 (sy_reg_t hto (br_f (by decide) (sy_idx_t hp (br_f (by decide) (sy_idx_t hq (br_f (by decide) (br_t m2 (br_t rfl (br_f m1 (good (Or.inl ⟨rfl, rfl, rfl⟩)))))))))))
        · have er : sf_rk2 (-1) (nI b) = 0 := if_pos rfl
          rw [er] at bad
          refine br_f m1 (sy_reg_t hto (br_f (by decide) (sy_idx_t hp (br_f (by decide) (sy_idx_t hq (br_f (by decide) (br_f (nI_pos (by omega)) (br_t m2 (bad ?_)))))))))
          rintro (⟨_, _, w⟩ | ⟨w, _⟩ | ⟨w, _⟩)
          · exact sf_m1n hb w
          · omega
          · omega
      · have hn : ¬ nI a < 0 := nI_pos (by omega)
        rcases sf_ge0 hq with ⟨rfl, y⟩ | ⟨b, hb, rfl, y⟩
        · have er : sf_rk2 (nI a) (-1) = 1 := by unfold sf_rk2; rw [if_neg (sf_m1n ha), if_pos rfl]
          rw [er] at good
          exact br_t z (br_f m1 (sy_reg_t hto (br_f (by decide) (sy_idx_t hp (br_f (by decide) (sy_idx_t hq (br_f (by decide) (br_t m2 (br_f (sf_m1n ha) (good (Or.inr (Or.inl ⟨rfl, ⟨a, ha, rfl⟩, rfl⟩))))))))))))
        · have hn2 : ¬ nI b < 0 := nI_pos (by omega)
          have er : sf_rk2 (nI a) (nI b) = 2 := by unfold sf_rk2; rw [if_neg (sf_m1n ha), if_neg (sf_m1n hb)]
          rw [er] at good bad
          refine br_t z (br_t y (sy_reg_t hto (br_f (by decide) (sy_idx_t hp (br_f (by decide) (sy_idx_t hq (br_f (by decide) (br_f hn2 (br_f hn (br_c (fun w => br_t z (bad ?_)) (fun w => good (Or.inr (Or.inr ⟨rfl, a, b, ha, hb, fun x => w (by rw [x]), rfl, rfl⟩)))))))))))))
          rintro (⟨x, _⟩ | ⟨x, _⟩ | ⟨_, a', b', ha', hb', hab, y1, y2⟩)
          · omega
          · omega
          · rw [y1, y2] at w
            exact hab ((nI_eq (by omega) (by omega)).mp w)
    · have H : ∀ z, wY_assign_17 post (nI to) p q v4 z yP yA yD yrk yrw ywi yfm yce ykd ynu ysz yva yfi yse yat ysp := fun z => sy_reg_t hto (br_f (by decide) (sy_idx_t hp (br_f (by decide) (sy_idx_f hq (br_t rfl (bad (fun z => hq (sf_ix_id z).2.1)))))))
      exact br_c (fun _ => br_c (fun _ => H _) (fun _ => H _)) (fun _ => H _)
  · have H : ∀ z, wY_assign_17 post (nI to) p q v4 z yP yA yD yrk yrw ywi yfm yce ykd ynu ysz yva yfi yse yat ysp := fun z => sy_reg_t hto (br_f (by decide) (sy_idx_f hp (br_t rfl (bad (fun z => hp (sf_ix_id z).1)))))
    exact br_c (fun _ => br_c (fun _ => H _) (fun _ => H _)) (fun _ => H _)
