def sf_C (ykd ynu ysz xa xcp xfi xse y0 : Nat → Int32) (n to l1 l2 : Nat) (p q : Int32) : Nat → Nat → Int32 :=
  sf_cel y0 (fun N => 36 * to + (6 * sf_at p (sf_tt l1 l2 N) + sf_at q (sf_tt l1 l2 N))) (fun N => sf_Z ykd ynu ysz xa xcp xfi xse (sf_tt l1 l2 N) n (n - 1))
theorem sf_3 {P : Nat → Prop} (h0 : P 0) (h1 : P 1) (h2 : P 2) : ∀ t, t < 3 → P t := by
  intro t ht
  match t, ht with
  | 0, _ => exact h0
  | 1, _ => exact h1
  | 2, _ => exact h2
theorem sx_add102 {post : SX → Prop} {J66 J84 : Int32 → Int32 → Int32 → Int32 → (Nat → Int32) → (Nat → Int32) → (Nat → Int32) → (Nat → Int32) → (Nat → Int32) → (Nat → Int32) → (Nat → Int32) → (Nat → Int32) → (Nat → Int32) → (Nat → Int32) → (Nat → Int32) → (Nat → Int32) → (Nat → Int32) → Prop} {xD xC : Int32} {xrk xrw xcl xfm xnm xk xa xcp xfi xse xsp xin xva : Nat → Int32} {n c to l0 l1 l2 a b : Nat} {p q : Int32} {yce ykd ynu ysz yfi yse yrw ywi y0 : Nat → Int32} (hn : n ≤ 20) (hc : c ≤ 6) (hp : ∀ i, i < n → sf_Pt c xk xa ykd ynu ysz i) (hs : sf_Cps c xcp xfi xse yce yfi yse yrw ywi) (hH : sf_H ykd n = 1) (hto : to < 6) (hp1 : sf_id p) (hq1 : sf_id q) (hl0 : l0 ≤ 6) (hl1 : l1 ≤ 6) (hl2 : l2 ≤ 6) (ha : a < l0) (hb : b < l1)
    (hx0 : xin 0 = nI a) (hx1 : xin 1 = nI b) (hag : ∀ k, k < 216 → xnm k = sf_C ykd ynu ysz xa xcp xfi xse y0 n to l1 l2 p q ((a * l1 + b) * l2) k)
    (K : ∀ xnm xin xva, xin 0 = nI a → (∀ k, k < 216 → xnm k = sf_C ykd ynu ysz xa xcp xfi xse y0 n to l1 l2 p q ((a * l1 + (b + 1)) * l2) k) → J84 (nI (b + 1)) (nI n) xD xC xrk xrw xcl xfm xnm xk xa xcp xfi xse xsp xin xva) :
    ∃ m, wX_addUpFormula_102 post J66 J84 (nI to) p q (nI l0) (nI l1) (nI l2) (nI a) (nI b) m 0 (nI n) xD xC xrk xrw xcl xfm xnm xk xa xcp xfi xse xsp xin xva := by
  have ee : (a * l1 + (b + 1)) * l2 = (a * l1 + b) * l2 + l2 := by rw [← Nat.add_assoc, Nat.succ_mul]
  refine pk_loop (fun m e (s : (Nat → Int32) × (Nat → Int32) × (Nat → Int32)) => wX_addUpFormula_102 post J66 J84 (nI to) p q (nI l0) (nI l1) (nI l2) (nI a) (nI b) m (nI e) (nI n) xD xC xrk xrw xcl xfm s.1 xk xa xcp xfi xse xsp s.2.1 s.2.2) (fun e s => s.2.1 0 = nI a ∧ s.2.1 1 = nI b ∧ ∀ k, k < 216 → s.1 k = sf_C ykd ynu ysz xa xcp xfi xse y0 n to l1 l2 p q ((a * l1 + b) * l2 + e) k) l2 0 (xnm, xin, xva) (by omega) ⟨hx0, hx1, hag⟩ (fun m s h => br_t (nI_le (by omega) (by omega)) (nm_r (nI_1 b) (K s.1 s.2.1 s.2.2 h.1 (by rw [ee]; exact h.2.2)))) (fun m e s he h k => ?_)
  obtain ⟨xnm, xin, xva⟩ := s
  obtain ⟨h0, h1, h2⟩ := h
  obtain ⟨t0, t1, t2⟩ := sf_tt_ix (a := a) hb he
  have h6 : ∀ t, t < 3 → sf_tt l1 l2 ((a * l1 + b) * l2 + e) t < 6 := sf_3 (by rw [t0]; omega) (by rw [t1]; omega) (by rw [t2]; omega)
  have hx : ∀ t, t < 3 → upd xin 2 (nI e) t = nI (sf_tt l1 l2 ((a * l1 + b) * l2 + e) t) := sf_3 (by rw [t0, pk_un (by omega)]; exact h0) (by rw [t1, pk_un (by omega)]; exact h1) (by rw [t2, pk_us])
  have y1 := sf_at_lt hp1 h6
  have y2 := sf_at_lt hq1 h6
  have g0 : upd xin 2 (nI e) 0 = nI a := (pk_un (by omega)).trans h0
  have g1 : upd xin 2 (nI e) 1 = nI b := (pk_un (by omega)).trans h1
  have g2 : ∀ k, k < 216 → upd xnm (36 * to + (6 * sf_at p (sf_tt l1 l2 ((a * l1 + b) * l2 + e)) + sf_at q (sf_tt l1 l2 ((a * l1 + b) * l2 + e)))) (xnm (36 * to + (6 * sf_at p (sf_tt l1 l2 ((a * l1 + b) * l2 + e)) + sf_at q (sf_tt l1 l2 ((a * l1 + b) * l2 + e)))) + sf_Z ykd ynu ysz xa xcp xfi xse (sf_tt l1 l2 ((a * l1 + b) * l2 + e)) n (n - 1)) k = sf_C ykd ynu ysz xa xcp xfi xse y0 n to l1 l2 p q ((a * l1 + b) * l2 + e + 1) k := sf_cel_x (N := (a * l1 + b) * l2 + e) (by show 36 * to + _ < 216; omega) h2
  exact sx_add_step (sf_tt l1 l2 ((a * l1 + b) * l2 + e)) hx h6 hn hc hp hs hH hto hp1 hq1 he hl2 (fun xva' => k (upd xnm (36 * to + (6 * sf_at p (sf_tt l1 l2 ((a * l1 + b) * l2 + e)) + sf_at q (sf_tt l1 l2 ((a * l1 + b) * l2 + e)))) (xnm (36 * to + (6 * sf_at p (sf_tt l1 l2 ((a * l1 + b) * l2 + e)) + sf_at q (sf_tt l1 l2 ((a * l1 + b) * l2 + e)))) + sf_Z ykd ynu ysz xa xcp xfi xse (sf_tt l1 l2 ((a * l1 + b) * l2 + e)) n (n - 1)), upd xin 2 (nI e), xva') ⟨g0, g1, g2⟩)
theorem sx_add84 {post : SX → Prop} {J66 : Int32 → Int32 → Int32 → Int32 → (Nat → Int32) → (Nat → Int32) → (Nat → Int32) → (Nat → Int32) → (Nat → Int32) → (Nat → Int32) → (Nat → Int32) → (Nat → Int32) → (Nat → Int32) → (Nat → Int32) → (Nat → Int32) → (Nat → Int32) → (Nat → Int32) → Prop} {xD xC : Int32} {xrk xrw xcl xfm xnm xk xa xcp xfi xse xsp xin xva : Nat → Int32} {n c to l0 l1 l2 a : Nat} {p q : Int32} {yce ykd ynu ysz yfi yse yrw ywi y0 : Nat → Int32} (hn : n ≤ 20) (hc : c ≤ 6) (hp : ∀ i, i < n → sf_Pt c xk xa ykd ynu ysz i) (hs : sf_Cps c xcp xfi xse yce yfi yse yrw ywi) (hH : sf_H ykd n = 1) (hto : to < 6) (hp1 : sf_id p) (hq1 : sf_id q) (hl0 : l0 ≤ 6) (hl1 : l1 ≤ 6) (hl2 : l2 ≤ 6) (ha : a < l0)
    (hx0 : xin 0 = nI a) (hag : ∀ k, k < 216 → xnm k = sf_C ykd ynu ysz xa xcp xfi xse y0 n to l1 l2 p q (a * l1 * l2) k)
    (K : ∀ xnm xin xva, (∀ k, k < 216 → xnm k = sf_C ykd ynu ysz xa xcp xfi xse y0 n to l1 l2 p q ((a + 1) * l1 * l2) k) → J66 (nI (a + 1)) (nI n) xD xC xrk xrw xcl xfm xnm xk xa xcp xfi xse xsp xin xva) :
    ∃ m, wX_addUpFormula_84 post J66 (nI to) p q (nI l0) (nI l1) (nI l2) (nI a) m 0 (nI n) xD xC xrk xrw xcl xfm xnm xk xa xcp xfi xse xsp xin xva := by
  have ee : (a + 1) * l1 * l2 = (a * l1 + l1) * l2 := by rw [Nat.succ_mul]
  refine pk_loop (fun m b (s : (Nat → Int32) × (Nat → Int32) × (Nat → Int32)) => wX_addUpFormula_84 post J66 (nI to) p q (nI l0) (nI l1) (nI l2) (nI a) m (nI b) (nI n) xD xC xrk xrw xcl xfm s.1 xk xa xcp xfi xse xsp s.2.1 s.2.2) (fun b s => s.2.1 0 = nI a ∧ ∀ k, k < 216 → s.1 k = sf_C ykd ynu ysz xa xcp xfi xse y0 n to l1 l2 p q ((a * l1 + b) * l2) k) l1 0 (xnm, xin, xva) (by omega) ⟨hx0, hag⟩ (fun m s h => br_t (nI_le (by omega) (by omega)) (nm_r (nI_1 a) (K s.1 s.2.1 s.2.2 (by rw [ee]; exact h.2)))) (fun m b s hb h k => br_f (nI_ge hb (by omega)) (nm_e ?_))
  exact sx_add102 hn hc hp hs hH hto hp1 hq1 hl0 hl1 hl2 ha hb ((pk_un (by omega)).trans h.1) pk_us h.2 (fun xnm xin xva g0 g1 => k (xnm, xin, xva) ⟨g0, g1⟩)
theorem sx_add66 {post : SX → Prop} {xD xC : Int32} {xrk xrw xcl xfm xnm xk xa xcp xfi xse xsp xin xva : Nat → Int32} {n c to l0 l1 l2 : Nat} {p q : Int32} {yce ykd ynu ysz yfi yse yrw ywi y0 : Nat → Int32} (hn : n ≤ 20) (hc : c ≤ 6) (hp : ∀ i, i < n → sf_Pt c xk xa ykd ynu ysz i) (hs : sf_Cps c xcp xfi xse yce yfi yse yrw ywi) (hH : sf_H ykd n = 1) (hto : to < 6) (hp1 : sf_id p) (hq1 : sf_id q) (hl0 : l0 ≤ 6) (hl1 : l1 ≤ 6) (hl2 : l2 ≤ 6)
    (hag : ∀ k, k < 216 → xnm k = y0 k)
    (K : ∀ xnm xin xva, (∀ k, k < 216 → xnm k = sf_C ykd ynu ysz xa xcp xfi xse y0 n to l1 l2 p q (l0 * l1 * l2) k) → post (nI n, xD, xC, xrk, xrw, xcl, xfm, xnm, xk, xa, xcp, xfi, xse, xsp, xin, xva)) :
    ∃ m, wX_addUpFormula_66 post (nI to) p q (nI l0) (nI l1) (nI l2) m 0 (nI n) xD xC xrk xrw xcl xfm xnm xk xa xcp xfi xse xsp xin xva := by
  refine pk_loop (fun m a (s : (Nat → Int32) × (Nat → Int32) × (Nat → Int32)) => wX_addUpFormula_66 post (nI to) p q (nI l0) (nI l1) (nI l2) m (nI a) (nI n) xD xC xrk xrw xcl xfm s.1 xk xa xcp xfi xse xsp s.2.1 s.2.2) (fun a s => ∀ k, k < 216 → s.1 k = sf_C ykd ynu ysz xa xcp xfi xse y0 n to l1 l2 p q (a * l1 * l2) k) l0 0 (xnm, xin, xva) (by omega) ?_ (fun m s h => br_t (nI_le (by omega) (by omega)) (K s.1 s.2.1 s.2.2 h)) (fun m a s ha h k => br_f (nI_ge ha (by omega)) (nm_e ?_))
  · rw [Nat.zero_mul, Nat.zero_mul]
    exact hag
  · exact sx_add84 hn hc hp hs hH hto hp1 hq1 hl0 hl1 hl2 ha pk_us h (fun xnm xin xva g => k (xnm, xin, xva) g)
theorem sy_add_step {post : Int32 → SY → Prop} {yA yD : Int32} {yrk yrw ywi yfm yce ykd ynu ysz yva yfi yse yat ysp : Nat → Int32} {n c to l0 l1 l2 N m : Nat} {p q : Int32} {xk xa xcp xfi xse : Nat → Int32} (hn : n ≤ 20) (hc : c ≤ 6) (hp : ∀ i, i < n → sf_Pt c xk xa ykd ynu ysz i) (hs : sf_Cps c xcp xfi xse yce yfi yse yrw ywi) (hH : sf_H ykd n = 1) (hto : to < 6) (hp1 : sf_id p) (hq1 : sf_id q) (hl0 : l0 ≤ 6) (hl1 : l1 ≤ 6) (hl2 : l2 ≤ 6) (h1 : 1 ≤ l1) (h2 : 1 ≤ l2) (hT : l0 * l1 * l2 ≤ 216) (hN : N < l0 * l1 * l2)
    (K : ∀ yat' yva', wY_assign_239 post (nI to) p q (nI l0) (nI l1) (nI l2) m (nI (N + 1)) (nI n) yA yD yrk yrw ywi yfm (upd yce (36 * to + (6 * sf_at p (sf_tt l1 l2 N) + sf_at q (sf_tt l1 l2 N))) (yce (36 * to + (6 * sf_at p (sf_tt l1 l2 N) + sf_at q (sf_tt l1 l2 N))) + sf_Z ykd ynu ysz xa xcp xfi xse (sf_tt l1 l2 N) n (n - 1))) ykd ynu ysz yva' yfi yse yat' ysp) : wY_assign_239 post (nI to) p q (nI l0) (nI l1) (nI l2) (m + 1) (nI N) (nI n) yA yD yrk yrw ywi yfm yce ykd ynu ysz yva yfi yse yat ysp := by
  obtain ⟨t0, t1, t2⟩ := sf_tt_lt (l0 := l0) (by omega) (by omega) hN
  have h6 : ∀ t, t < 3 → sf_tt l1 l2 N t < 6 := sf_3 (by omega) (by omega) (by omega)
  have y1 := sf_at_lt hp1 h6
  have y2 := sf_at_lt hq1 h6
  have h12 : 0 < l1 * l2 := Nat.mul_pos (by omega) (by omega)
  have h12' : l1 * l2 ≤ 36 := Nat.mul_le_mul hl1 hl2
  have e0 : nI l0 * nI l1 * nI l2 = nI (l0 * l1 * l2) := by rw [pk_mul, pk_mul]
  have e1 : nI N / (nI l1 * nI l2) = nI (sf_tt l1 l2 N 0) := by rw [pk_mul]; exact pk_div (by omega) h12 (by omega)
  have e2 : nI N / nI l2 = nI (N / l2) := pk_div (by omega) (by omega) (by omega)
  have e3 : nI N / nI l2 - nI N / nI l2 / nI l1 * nI l1 = nI (sf_tt l1 l2 N 1) := by
    rw [e2]
    exact pk_rem (Nat.lt_of_le_of_lt (Nat.div_le_self N l2) (by omega)) (by omega) (by omega)
  have e4 : nI N - nI N / nI l2 * nI l2 = nI (sf_tt l1 l2 N 2) := pk_rem (by omega) (by omega) (by omega)
  have z1 : ¬ nI l1 = 0 := nI_ne0 (by omega) (by omega)
  have z2 : ¬ nI l2 = 0 := nI_ne0 (by omega) (by omega)
  have z12 : ¬ nI l1 * nI l2 = 0 := by rw [pk_mul]; exact nI_ne0 h12 (by omega)
  have hy : ∀ t, t < 3 → upd (upd (upd yat 0 (nI (sf_tt l1 l2 N 0))) 1 (nI (sf_tt l1 l2 N 1))) 2 (nI (sf_tt l1 l2 N 2)) t = nI (sf_tt l1 l2 N t) := sf_3 (by rw [pk_un (by omega), pk_un (by omega), pk_us]) (by rw [pk_un (by omega), pk_us]) pk_us
  generalize hyat : upd (upd (upd yat 0 (nI (sf_tt l1 l2 N 0))) 1 (nI (sf_tt l1 l2 N 1))) 2 (nI (sf_tt l1 l2 N 2)) = yat2 at hy
  have Q327 : wY_assign_327 post (wY_assign_239 post (nI to) p q (nI l0) (nI l1) (nI l2) m) (nI to) p q (nI l0) (nI l1) (nI l2) (nI N) (nI (sf_at q (sf_tt l1 l2 N))) (36 * nI to + 6 * nI (sf_at p (sf_tt l1 l2 N))) (nI n) yA yD yrk yrw ywi yfm yce ykd ynu ysz yva yfi yse yat2 ysp := by
    have ev : vp_in (nI (36 * to + (6 * sf_at p (sf_tt l1 l2 N) + sf_at q (sf_tt l1 l2 N)))) 468 := vp_in_nI (by omega) (by decide)
    refine nm_r (e' := nI (36 * to + (6 * sf_at p (sf_tt l1 l2 N) + sf_at q (sf_tt l1 l2 N)))) ((sf_yi to _ _).trans (by rw [Nat.add_assoc])) ?_
    rw [nI_clamp (by omega)]
    refine ⟨ev, ?_⟩
    unfold wpY_workOut
    dsimp only
    exact ⟨n + 1, sy_eval (sf_tt l1 l2 N) hy h6 hn hc hp hs hH _ (fun yva' => ⟨ev, nm_e (nm_r (nI_1 N) (K yat2 yva'))⟩) n 0 (by omega) yva (fun j hj => absurd hj (Nat.not_lt_zero j))⟩
  have Q312 : wY_assign_312 post (wY_assign_239 post (nI to) p q (nI l0) (nI l1) (nI l2) m) (nI to) p q (nI l0) (nI l1) (nI l2) (nI N) (6 * nI (sf_at p (sf_tt l1 l2 N))) (36 * nI to) (nI n) yA yD yrk yrw ywi yfm yce ykd ynu ysz yva yfi yse yat2 ysp := by
    rcases sf_ge0 hq1 with ⟨e, z⟩ | ⟨b, hb, e, z⟩
    · rw [show sf_at q (sf_tt l1 l2 N) = 0 by rw [e, sf_at_n]] at Q327
      exact br_f z Q327
    · refine br_t z ⟨by rw [e]; exact vp_in_nI hb (by decide), ?_⟩
      rw [show sf_at q (sf_tt l1 l2 N) = sf_tt l1 l2 N b by rw [e, sf_at_p _ hb]] at Q327
      rw [show yat2 q.toNatClampNeg = nI (sf_tt l1 l2 N b) by rw [e, nI_clamp (by omega), hy b hb]]
      exact Q327
  refine br_f (by rw [e0]; exact nI_ge hN (by omega)) ⟨z12, nm_r (e' := upd yat 0 (nI (sf_tt l1 l2 N 0))) (by rw [e1]) ⟨z2, z1, nm_r (e' := upd (upd yat 0 (nI (sf_tt l1 l2 N 0))) 1 (nI (sf_tt l1 l2 N 1))) (by rw [e3]) ⟨z2, nm_r (e' := yat2) (by rw [e4]; exact hyat) ?_⟩⟩⟩
  rcases sf_ge0 hp1 with ⟨e, z⟩ | ⟨b, hb, e, z⟩
  · rw [show sf_at p (sf_tt l1 l2 N) = 0 by rw [e, sf_at_n]] at Q312
    exact br_f z Q312
  · refine br_t z ⟨by rw [e]; exact vp_in_nI hb (by decide), ?_⟩
    rw [show sf_at p (sf_tt l1 l2 N) = sf_tt l1 l2 N b by rw [e, sf_at_p _ hb]] at Q312
    rw [show yat2 p.toNatClampNeg = nI (sf_tt l1 l2 N b) by rw [e, nI_clamp (by omega), hy b hb]]
    exact Q312
