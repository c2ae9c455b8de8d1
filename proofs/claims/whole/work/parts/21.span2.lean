theorem sy_find {post : SY → Prop} {yA yD : Int32} {yrk yrw ywi yfm yce ykd ynu ysz yva yfi yse yat ysp : Nat → Int32} {n c d : Nat} {xk xa xcp xfi xse xsp : Nat → Int32} (F : sf_Form n c d xk xa xcp xfi xse xsp yce ykd ynu ysz yfi yse yrw ywi) (P : ∀ B, (∀ p, p < 3 → B p = (if d = 0 then 0 else xsp (3 * (d - 1) + p))) → post (nI n, yA, yD, yrk, yrw, ywi, yfm, yce, ykd, ynu, ysz, yva, yfi, yse, yat, B)) : wpY_findSpans post (nI n, yA, yD, yrk, yrw, ywi, yfm, yce, ykd, ynu, ysz, yva, yfi, yse, yat, ysp) := by
  have F' := F
  obtain ⟨f1, f2, f3, f4, f5, f6, f7⟩ := F
  unfold wpY_findSpans
  dsimp only
  refine pk_loop (fun m i (A : Nat → Int32) => wY_findSpans_2 post (nI n) yA yD m (nI i) yrk yrw ywi yfm yce ykd ynu ysz yva yfi yse yat A) (fun i A => ∀ p, p < i → A p = 0) 3 0 ysp (by omega) (fun p h => absurd h (Nat.not_lt_zero p)) (fun m A hA => br_t (nI_le (a := 3) (b := 3) (by omega) (by decide)) ?_) (fun m i A hi hA k => br_f (nI_ge (b := 3) hi (by decide)) ⟨vp_in_nI hi (by decide), nm_r (e' := upd A i 0) (by rw [nI_clamp (by omega)]) (nm_r (nI_1 i) (k _ (fun p hp => ?_)))⟩)
  · by_cases z : n = 0
    · refine br_t (by rw [z]; rfl) (sy_find50 (lo := 0) f1 f2 (by omega) f5 f6 hA (fun B hB => P B (fun p hp => ?_)))
      rw [if_pos ((sf_n0 F').mp z), hB p hp, z]
      rfl
    · have hd : ¬ d = 0 := fun y => z ((sf_n0 F').mpr y)
      obtain ⟨g1, g2, g3⟩ := sf_size1 F' (by omega)
      have e1 : nI n - 1 = nI (n - 1) := pk_sub (b := 1) g1
      refine br_f (nI_ne0 (by omega) (by omega)) ⟨by rw [e1]; exact vp_in_nI (by omega) (by decide), nm_r (e' := nI (sf_E ykd n (d - 1))) ?_ (sy_find50 (lo := sf_E ykd n (d - 1)) f1 f2 (by omega) f5 f6 hA (fun B hB => P B (fun p hp => ?_)))⟩
      · rw [e1, nI_clamp (by omega), g3, pk_sub (by omega)]
        exact congrArg nI (by omega)
      · rw [if_neg hd, hB p hp, sf_top F' (by omega) p hp]
  · by_cases z : p = i
    · rw [z, pk_us]
    · rw [pk_un z]; exact hA p (by omega)
theorem i_vc_span {k : Nat} {u : SX} {v : SY} (I : i_Rel k u v) (hk : k + 5 ≤ 2560) (v1 : Int32) : wpX_span (fun r => wpY_span (fun r' v' => r' = r ∧ i_Rel (k + 5) u v') v v1) u v1 := by
  obtain ⟨xP, xD, xC, xrk, xrw, xcl, xfm, xnm, xk, xa, xcp, xfi, xse, xsp, xin, xva⟩ := u
  obtain ⟨yP, yA, yD, yrk, yrw, ywi, yfm, yce, ykd, ynu, ysz, yva, yfi, yse, yat, ysp⟩ := v
  have I0 := I
  obtain ⟨n, c, d, ⟨rfl, rfl, rfl, rfl, rfl, rfl⟩, G, F⟩ := I
  have F' := F
  obtain ⟨f1, f2, f3, f4, f5, f6, f7⟩ := F
  unfold wpX_span
  dsimp only
  by_cases h1 : v1 < 0
  · exact br_t h1 (br_t h1 ⟨rfl, I0⟩)
  obtain ⟨p, hp, rfl⟩ := nI_of h1
  by_cases h3 : p < 3
  · have h3' : nI p < 3 := nI_lt (b := 3) h3 (by decide)
    have h2' : nI p ≤ 2 := nI_le (b := 2) (by omega) (by decide)
    have vp : vp_in (nI p) 3 := vp_in_nI h3 (by decide)
    have cp : (nI p).toNatClampNeg = p := nI_clamp (by omega)
    by_cases hd : d = 0
    · refine br_f h1 (br_t h3' (br_f (nI_ge (b := 1) (by omega) (by decide)) ?_))
      unfold wpY_span
      dsimp only
      refine br_f h1 (br_t h2' (sy_find F' (fun B hB => ?_)))
      dsimp only
      rw [cp]
      have := hB p h3
      rw [if_pos hd] at this
      exact ⟨vp, br_t this ⟨rfl, sf_mk G F'⟩⟩
    · have e1 : nI d - 1 = nI (d - 1) := pk_sub (b := 1) (by omega)
      rw [e1, sf_3a, nI_clamp (by omega)]
      have YT : ∀ r0 : Int32, (xsp (3 * (d - 1) + p) = 0 → r0 = -1000000004) → (¬ xsp (3 * (d - 1) + p) = 0 → 0 ≤ xsp (3 * (d - 1) + p) → r0 = xsp (3 * (d - 1) + p)) → (¬ 0 ≤ xsp (3 * (d - 1) + p) → r0 = -1000000005) → wpY_span (fun r' v' => r' = r0 ∧ i_Rel (k + 5) (nI n, nI d, nI c, xrk, xrw, xcl, xfm, xnm, xk, xa, xcp, xfi, xse, xsp, xin, xva) v') (nI n, nI c, nI d, yrk, yrw, ywi, yfm, yce, ykd, ynu, ysz, yva, yfi, yse, yat, ysp) (nI p) := by
        intro r0 q1 q2 q3
        unfold wpY_span
        dsimp only
        refine br_f h1 (br_t h2' (sy_find F' (fun B hB => ?_)))
        dsimp only
        have := hB p h3
        rw [if_neg hd] at this
        rw [cp, this]
        exact ⟨vp, br_c (fun z => ⟨(q1 z).symm, sf_mk G F'⟩) (fun z => ⟨vp, br_c (fun z2 => ⟨vp, (q2 z z2).symm, sf_mk G F'⟩) (fun z2 => ⟨(q3 z2).symm, sf_mk G F'⟩)⟩)⟩
      refine br_f h1 (br_t h3' (br_t (nI_le (a := 1) (by omega) (by omega)) ⟨vp_in_nI (by omega) (by decide), nm_e ?_⟩))
      rcases sf_top_ok F' (by omega) p h3 with z | ⟨j, hj, z⟩
      · rw [z] at YT ⊢
        exact br_f (by decide) (br_t rfl (YT _ (fun y => absurd y (by decide)) (fun _ y => absurd y (by decide)) (fun _ => rfl)))
      · rw [z] at YT ⊢
        have j0 : 0 ≤ nI j := nI_pos' (by omega)
        refine br_c (fun y => YT _ (fun _ => rfl) (fun y2 => absurd y y2) (fun y2 => absurd j0 y2)) (fun y => br_f ?_ (YT _ (fun y2 => absurd y2 y) (fun _ _ => rfl) (fun y2 => absurd j0 y2)))
        intro y2
        rw [y2] at j0
        exact absurd j0 (by decide)
  · have h3' : ¬ nI p < 3 := nI_nlt (b := 3) (by omega) (by omega)
    have h2' : ¬ nI p ≤ 2 := nI_ge (a := 2) (by omega) (by omega)
    exact br_f h1 (br_f h3' (br_f h1 (br_f h2' ⟨rfl, I0⟩)))
