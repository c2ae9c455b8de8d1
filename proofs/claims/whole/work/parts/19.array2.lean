/-- the new formula's lengths -/
def sf_asp (d : Nat) (p q a b : Int32) (xsp B : Nat → Int32) : Prop := (∀ t, t < 3 → B (3 * d + t) = (if p = nI t then a else if q = nI t then b else 0)) ∧ ∀ k, (k < 3 * d ∨ 3 * d + 3 ≤ k) → B k = xsp k
theorem sf_asp_0 {d : Nat} {a b : Int32} {xsp A : Nat → Int32} (hA : sf_blk (3 * d) 3 (fun _ => 0) xsp A) : sf_asp d (-1) (-1) a b xsp A := by
  refine ⟨fun t ht => ?_, hA.2⟩
  rw [if_neg (fun y => sf_m1n ht y.symm), if_neg (fun y => sf_m1n ht y.symm)]
  exact hA.1 t ht
theorem sf_asp_1 {d e : Nat} {a b : Int32} {xsp A : Nat → Int32} (hA : sf_blk (3 * d) 3 (fun _ => 0) xsp A) (he : e < 3) : sf_asp d (nI e) (-1) a b xsp (upd A (3 * d + e) a) := by
  refine ⟨fun t ht => ?_, fun k hk => by rw [pk_un (by omega)]; exact hA.2 k hk⟩
  by_cases z : t = e
  · rw [z, pk_us, if_pos rfl]
  · rw [pk_un (by omega), if_neg (fun y => z ((nI_eq (by omega) (by omega)).mp y).symm), if_neg (fun y => sf_m1n ht y.symm)]
    exact hA.1 t ht
theorem sf_asp_2 {d e f : Nat} {a b : Int32} {xsp A : Nat → Int32} (hA : sf_blk (3 * d) 3 (fun _ => 0) xsp A) (he : e < 3) (hf : f < 3) (hef : e ≠ f) : sf_asp d (nI e) (nI f) a b xsp (upd (upd A (3 * d + e) a) (3 * d + f) b) := by
  refine ⟨fun t ht => ?_, fun k hk => by rw [pk_un (by omega), pk_un (by omega)]; exact hA.2 k hk⟩
  by_cases z : t = f
  · rw [z, pk_us, if_neg (fun y => hef ((nI_eq (by omega) (by omega)).mp y)), if_pos rfl]
  · rw [pk_un (by omega)]
    by_cases z2 : t = e
    · rw [z2, pk_us, if_pos rfl]
    · rw [pk_un (by omega), if_neg (fun y => z2 ((nI_eq (by omega) (by omega)).mp y).symm), if_neg (fun y => z ((nI_eq (by omega) (by omega)).mp y).symm)]
      exact hA.1 t ht
theorem sf_Regs_y {xrk xrw xcl xfm xnm yrk yrw ywi yfm yce yrk' yrw' ywi' yfm' yce' : Nat → Int32} (G : sf_Regs xrk xrw xcl xfm xnm yrk yrw ywi yfm yce) (h : ∀ s, s < 6 → yrk' s = yrk s ∧ yrw' s = yrw s ∧ ywi' s = ywi s ∧ yfm' s = yfm s) (hc : ∀ k, k < 216 → yce' k = yce k) : sf_Regs xrk xrw xcl xfm xnm yrk' yrw' ywi' yfm' yce' := by
  obtain ⟨G1, G2, G3⟩ := G
  refine ⟨fun s hs => ?_, fun k hk => by rw [hc k hk]; exact G2 k hk, fun s hs => ?_⟩
  · obtain ⟨q1, q2, q3, q4⟩ := h s hs
    rw [q1, q2, q3, q4]
    exact G1 s hs
  · obtain ⟨q1, q2, q3, q4⟩ := h s hs
    obtain ⟨k', h', w', f', p1, p2, p3, p4, p5, p6⟩ := G3 s hs
    refine ⟨k', h', w', f', by rw [q1, p1], by rw [q2, p2], by rw [q3, p3], by rw [q4, p4], p5, fun i j hi hj hz => ?_⟩
    show yce' (36 * s + (6 * i + j)) = 0
    rw [hc _ (by omega)]
    exact p6 i j hi hj hz
theorem i_vc_array {k : Nat} {u : SX} {v : SY} (I : i_Rel k u v) (hk : k + 5 ≤ 2560) (v1 : Int32) (v2 : Int32) (v3 : Int32) : wpX_array (fun r u' => wpY_array (fun r' v' => r' = r ∧ i_Rel (k + 5) u' v') v v1 v2 v3) u v1 v2 v3 := by
  obtain ⟨xP, xD, xC, xrk, xrw, xcl, xfm, xnm, xk, xa, xcp, xfi, xse, xsp, xin, xva⟩ := u
  obtain ⟨yP, yA, yD, yrk, yrw, ywi, yfm, yce, ykd, ynu, ysz, yva, yfi, yse, yat, ysp⟩ := v
  have I0 := I
  obtain ⟨n, c, d, ⟨rfl, rfl, rfl, rfl, rfl, rfl⟩, G, F⟩ := I
  have F' := F
  obtain ⟨f1, f2, f3, f4, f5, f6, f7⟩ := F
  unfold wpX_array
  dsimp only
  by_cases hr : sf_rg v1
  · obtain ⟨r, hr, rfl⟩ := hr
    obtain ⟨q, h, w, f, a1, a2, a3, a4, p1, p2, p3, p4, S, O, O2⟩ := sf_reg G hr
    have hx : vp_in (nI r) 6 := vp_in_nI hr (by decide)
    have ec : (nI r).toNatClampNeg = r := nI_clamp (by omega)
    have hq2 := sf_Sh_k S
    rw [ec, a1]
    by_cases hix : sf_ix q v2 v3
    · have hid := sf_ix_id hix
      by_cases hn : n = 20
      · refine sx_reg_t hr (br_f (by decide) ⟨hx, sx_ix_t hix (br_f (by decide) (br_t (nI_le (a := 20) (by omega) (by omega)) ?_))⟩)
        exact sy_array_gen hr hq2 p1 (fun z => absurd hix z) (fun _ => br_t (by rw [hn]; rfl) ⟨rfl, I0⟩)
      have hn' : ¬ nI n = 20 := fun y => hn ((nI_eq (b := 20) (by omega) (by decide)).mp y)
      have hn2 : ¬ 20 ≤ nI n := nI_ge (b := 20) (by omega) (by decide)
      by_cases hc : c = 6
      · refine sx_reg_t hr (br_f (by decide) ⟨hx, sx_ix_t hix (br_f (by decide) (br_f hn2 (br_t (nI_le (a := 6) (by omega) (by omega)) ?_)))⟩)
        exact sy_array_gen hr hq2 p1 (fun z => absurd hix z) (fun _ => br_f hn' (br_t (by rw [hc]; rfl) ⟨rfl, I0⟩))
      have hc' : ¬ nI c = 6 := fun y => hc ((nI_eq (b := 6) (by omega) (by decide)).mp y)
      have hc2 : ¬ 6 ≤ nI c := nI_ge (b := 6) (by omega) (by decide)
      by_cases hd : d = 6
      · refine sx_reg_t hr (br_f (by decide) ⟨hx, sx_ix_t hix (br_f (by decide) (br_f hn2 (br_f hc2 (br_f (nI_nlt (b := 6) (by omega) (by omega)) ?_))))⟩)
        exact sy_array_gen hr hq2 p1 (fun z => absurd hix z) (fun _ => br_f hn' (br_f hc' (br_t (by rw [hd]; rfl) ⟨rfl, I0⟩)))
      have hd' : ¬ nI d = 6 := fun y => hd ((nI_eq (b := 6) (by omega) (by decide)).mp y)
      have hd2 : nI d < 6 := nI_lt (b := 6) (by omega) (by decide)
      have vc : vp_in (nI c) 6 := vp_in_nI (by omega) (by decide)
      have cc : (nI c).toNatClampNeg = c := nI_clamp (by omega)
      have dd : nI (d + 1) - 1 = nI d := pk_sub (a := d + 1) (b := 1) (by omega)
      have YT : ∀ (A B : Nat → Int32), sf_blk (36 * c) 36 (fun i => xnm (36 * r + i)) xcp A → sf_asp d v2 v3 (nI h) (nI w) xsp B → wpY_array (fun r' v' => r' = nI (d + 1) ∧ i_Rel (k + 5) (nI (n + 1), nI (d + 1), nI (c + 1), xrk, xrw, xcl, xfm, xnm, upd xk n 4, upd xa n (nI c), A, upd xfi c v2, upd xse c v3, B, xin, xva) v') (nI n, nI c, nI d, yrk, yrw, ywi, yfm, yce, ykd, ynu, ysz, yva, yfi, yse, yat, ysp) (nI r) v2 v3 := by
        intro A B hA hB
        refine sy_array_gen hr hq2 p1 (fun z => absurd hix z) (fun _ => br_f hn' (br_f hc' (br_f hd' ?_)))
        have e6 : (6 : Int32) + nI c = nI (6 + c) := nI_add 6 c
        have c6 : (nI (6 + c)).toNatClampNeg = 6 + c := nI_clamp (by omega)
        have v6 : vp_in (nI (6 + c)) 13 := vp_in_nI (by omega) (by decide)
        rw [e6]
        refine sy_copy (by omega) (by omega) (by omega) (fun C hC => ?_)
        dsimp only
        rw [e6, c6, nI_1]
        refine ⟨v6, nm_e ⟨v6, nm_e (nm_e ?_)⟩⟩
        rw [show (5 : Int32) + nI (c + 1) = nI (6 + c) from (nI_add 5 (c + 1)).trans (congrArg nI (by omega))]
        refine ⟨0 + 1, sy_addE (s := nI 1) (t := 0) (by omega) f3 (by omega) (by omega) ⟨rfl, ?_⟩⟩
        dsimp only
        have eE : sf_E ykd n (d - 0) = n := by rw [Nat.sub_zero, ← f4]; exact sf_E_top ykd n
        have n6 : ∀ {a : Nat}, a < c → 6 + a ≠ 6 + c := fun h => by omega
        refine sf_mk (sf_Regs_y G (fun s hs => ⟨pk_un (by omega), pk_un (by omega), pk_un (by omega), pk_un (by omega)⟩) (fun j hj => hC.2 j (by omega))) (sf_push (t := 0) F' (by omega) (Nat.le_succ c) (by omega) (by rw [pk_us]; rfl) (by omega) (by omega) (fun j hj => pk_un (by omega)) (fun j hj => pk_un (by omega)) (fun j hj => pk_un (by omega)) (fun j hj => pk_un (by omega)) (fun j hj => pk_un (by omega)) ?_ (Or.inr (Or.inl ⟨pk_us, pk_us, c, by omega, pk_us, pk_us⟩)) (fun a ha => ?_) (fun a ha => ⟨pk_un (n6 ha), pk_un (n6 ha), pk_un (n6 ha), pk_un (n6 ha)⟩) (fun k p hk hp => hB.2 _ (by omega)) (fun p hp => ?_))
        · rw [pk_us, eE]
          exact congrArg nI (by omega)
        · by_cases z : a = c
          · subst z
            rw [pk_us, pk_us, pk_us, pk_us, pk_us, pk_us, p2, p3]
            refine ⟨fun i hi => ?_, rfl, rfl, hid.1, hid.2.1, hid.2.2, ⟨h, S.1, S.2.1, rfl⟩, ⟨w, S.2.2.1, S.2.2.2.1, rfl⟩⟩
            have t1 : A (36 * a + i) = xnm (36 * r + i) := hA.1 i hi
            have t2 : C (36 * (6 + a) + i) = yce (36 * r + i) := hC.1 i hi
            rw [show 36 * (6 + a) + i = 216 + 36 * a + i by omega] at t2
            rw [t1, t2]
            exact G.2.1 _ (by omega)
          · obtain ⟨b1, b2, b3, b4, b5, b6, b7, b8⟩ := f6 a (by omega)
            have z' : 6 + a ≠ 6 + c := by omega
            rw [pk_un z, pk_un z, pk_un z', pk_un z', pk_un z', pk_un z']
            refine ⟨fun i hi => ?_, b2, b3, b4, b5, b6, b7, b8⟩
            rw [hA.2 _ (by omega), hC.2 _ (by omega)]
            exact b1 i hi
        · rw [eE, Nat.sub_self, sf_fs_0, sf_cs_0l, Nat.sub_zero, hB.1 p hp]
          unfold sf_cb
          rw [pk_us, pk_us, if_pos rfl, c6, pk_us, pk_us, pk_us, pk_us, p2, p3]
      refine sx_reg_t hr (br_f (by decide) ⟨hx, sx_ix_t hix (br_f (by decide) (br_f hn2 (br_f hc2 (br_t hd2 (sx_copyReg hr (by omega) (fun A hA => ?_))))))⟩)
      dsimp only
      rw [cc]
      refine ⟨vc, nm_e ⟨vc, nm_e (sx_addPart (by omega) ?_)⟩⟩
      dsimp only
      rw [nI_1]
      refine nm_e (sx_pushW (by omega) (fun B hB => ?_))
      dsimp only
      rw [a2, dd]
      rcases hix with ⟨rfl, rfl, rfl⟩ | ⟨rfl, ⟨a, ha, rfl⟩, rfl⟩ | ⟨rfl, a, b, ha, hb, hab, rfl, rfl⟩
      · exact br_t rfl (br_t rfl (YT A B hA (sf_asp_0 hB)))
      · refine br_f (sf_m1n ha) ⟨hx, ?_⟩
        rw [sf_3a, nI_clamp (by omega)]
        exact ⟨vp_in_nI (by omega) (by decide), nm_e (br_t rfl (YT A _ hA (sf_asp_1 hB ha)))⟩
      · refine br_f (sf_m1n ha) ⟨hx, ?_⟩
        rw [sf_3a, nI_clamp (by omega)]
        refine ⟨vp_in_nI (by omega) (by decide), nm_e (br_f (sf_m1n hb) ⟨hx, ?_⟩)⟩
        rw [dd, sf_3a, nI_clamp (by omega), ec, a3]
        exact ⟨vp_in_nI (by omega) (by decide), nm_e (YT A _ hA (sf_asp_2 hB ha hb hab))⟩
    · refine sx_reg_t hr (br_f (by decide) ⟨hx, sx_ix_f hq2 hix (br_t rfl ?_)⟩)
      exact sy_array_gen hr hq2 p1 (fun _ => ⟨rfl, I0⟩) (fun z => absurd z hix)
  · refine sx_reg_f hr (br_t rfl ?_)
    unfold wpY_array
    dsimp only
    exact sy_reg_f hr (br_t rfl ⟨rfl, I0⟩)
