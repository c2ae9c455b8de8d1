theorem sf_f1 : ∀ f, f < 8 → ((nI f &&& 1 = 0) ↔ f % 2 = 0) := by decide +kernel
theorem sf_f2 : ∀ f, f < 8 → ((nI f &&& 2 = 0) ↔ f / 2 % 2 = 0) := by decide +kernel
theorem sf_f3 : ∀ f, f < 8 → ((nI f - nI f / 2 * 2 = 0) ↔ f % 2 = 0) := by decide +kernel
theorem sf_f4 : ∀ f, f < 8 → ((nI f / 2 - nI f / 2 / 2 * 2 = 0) ↔ f / 2 % 2 = 0) := by decide +kernel
theorem sf_tm_o {f : Nat} {L own : Int32} (h : f % 2 = 1) : sf_tm f L own = own := if_pos h
theorem sf_tm_y {f : Nat} {L own : Int32} (h : ¬ f % 2 = 1) (h2 : 0 < own ∨ f / 2 % 2 = 0) : sf_tm f L own = L := by
  unfold sf_tm
  rw [if_neg h, if_pos h2]
theorem sf_tm_n {f : Nat} {L own : Int32} (h : ¬ f % 2 = 1) (h2 : ¬ (0 < own ∨ f / 2 % 2 = 0)) : sf_tm f L own = 0 := by
  unfold sf_tm
  rw [if_neg h, if_neg h2]
def sf_own (g : Nat → Int32) (b : Bool) (l : Nat) : Int32 := bx_sum (fun k => sf_nz (g (sf_lx b l k))) 6
theorem sx_room144 {post : Int32 → Prop} {xP xD xC : Int32} {xrk xrw xcl xfm xnm xk xa xcp xfi xse xsp xin xva : Nat → Int32} (b : Bool) {r f L : Nat} {x3 x4 ll : Int32} (hr : r < 6) (hL : L ≤ 6) (h3 : x3 = 0 ↔ f / 2 % 2 = 0) (h4 : x4 = 0 ↔ f % 2 = 0) (h : post (bx_sum (fun l => sf_tm f ll (sf_own (fun i => xnm (36 * r + i)) b l)) L)) : ∃ n, wX_countRoom_144 post (nI r) (sf_bi b) x3 x4 (nI L) ll xP xD xC xrk xrw xcl xfm xnm xk xa xcp xfi xse xsp xin xva n 0 0 := by
  refine pk_loop (fun n i (s : Int32) => wX_countRoom_144 post (nI r) (sf_bi b) x3 x4 (nI L) ll xP xD xC xrk xrw xcl xfm xnm xk xa xcp xfi xse xsp xin xva n s (nI i)) (fun i s => s = bx_sum (fun l => sf_tm f ll (sf_own (fun i => xnm (36 * r + i)) b l)) i) L 0 0 (by omega) rfl (fun n s hs => br_t (nI_le (a := L) (b := L) (by omega) (by omega)) (by rw [hs]; exact h)) (fun n i s hi hs k => br_f (nI_ge hi (by omega)) ?_)
  apply sx_line b hr (by omega)
  have hk := k (s + sf_tm f ll (sf_own (fun i => xnm (36 * r + i)) b i)) (by rw [sm_s, hs])
  show (x4 = 0 → _) ∧ _
  by_cases z : f % 2 = 1
  · rw [sf_tm_o z] at hk
    exact br_f (fun y => by have := h4.mp y; omega) (nm_e (nm_r (nI_1 i) hk))
  · refine br_t (h4.mpr (by omega)) (br_c (fun z1 => ?_) (fun z1 => br_c (fun z2 => ?_) (fun z2 => ?_)))
    · rw [sf_tm_y (own := sf_own (fun i => xnm (36 * r + i)) b i) z (Or.inl z1)] at hk
      exact nm_e (nm_r (nI_1 i) hk)
    · rw [sf_tm_y z (Or.inr (h3.mp z2))] at hk
      exact nm_e (nm_r (nI_1 i) hk)
    · rw [sf_tm_n (own := sf_own (fun i => xnm (36 * r + i)) b i) z (fun y => y.elim z1 (fun y => z2 (h3.mpr y))), Int32.add_zero] at hk
      exact nm_r (nI_1 i) hk
theorem sy_room131 {post : Int32 → Prop} {J : Int32 → Int32 → Prop} {yP yA yD : Int32} {yrk yrw ywi yfm yce ykd ynu ysz yva yfi yse yat ysp : Nat → Int32} {f i : Nat} {x1 x3 x4 x5 s own : Int32} (hf : f < 8) (h : J (s + (if f % 2 = 0 then x5 else own)) (nI (i + 1))) : wY_countRoom_131 post J x1 (nI f) x3 x4 x5 s (nI i) own 1 yP yA yD yrk yrw ywi yfm yce ykd ynu ysz yva yfi yse yat ysp := by
  by_cases z : f % 2 = 0
  · rw [if_pos z] at h
    exact br_f (by decide) ⟨by decide, br_t ((sf_f3 f hf).mpr z) (nm_e (nm_r (nI_1 i) h))⟩
  · rw [if_neg z] at h
    exact br_f (by decide) ⟨by decide, br_f (fun y => z ((sf_f3 f hf).mp y)) (nm_e (nm_r (nI_1 i) h))⟩
theorem sy_room96 {post : Int32 → Prop} {yP yA yD : Int32} {yrk yrw ywi yfm yce ykd ynu ysz yva yfi yse yat ysp : Nat → Int32} (b : Bool) {r f L h w : Nat} {ll : Int32} (hr : r < 6) (hf : f < 8) (hL : L ≤ (if b then w else h)) (e1 : yrw r = nI h) (e2 : ywi r = nI w) (hh : h ≤ 6) (hw : w ≤ 6) (O : sf_Out h w (fun i => yce (36 * r + i))) (p : post (bx_sum (fun l => sf_tm f ll (sf_own (fun i => yce (36 * r + i)) b l)) L)) : ∃ n, wY_countRoom_96 post (nI r) (nI f) (sf_bi (!b)) (nI L) ll yP yA yD yrk yrw ywi yfm yce ykd ynu ysz yva yfi yse yat ysp n 0 0 := by
  have hL6 : L ≤ 6 := by cases b <;> simp at hL <;> omega
  refine pk_loop (fun n i (s : Int32) => wY_countRoom_96 post (nI r) (nI f) (sf_bi (!b)) (nI L) ll yP yA yD yrk yrw ywi yfm yce ykd ynu ysz yva yfi yse yat ysp n s (nI i)) (fun i s => s = bx_sum (fun l => sf_tm f ll (sf_own (fun i => yce (36 * r + i)) b l)) i) L 0 0 (by omega) rfl (fun n s hs => br_t (nI_le (a := L) (b := L) (by omega) (by omega)) (by rw [hs]; exact p)) (fun n i s hi hs k => br_f (nI_ge hi (by omega)) ?_)
  apply sy_line b hr (by omega) e1 e2 hh hw
  have eo : bx_sum (fun k => sf_nz (yce (36 * r + sf_lx b i k))) (if b then h else w) = sf_own (fun i => yce (36 * r + i)) b i := by
    unfold sf_own
    cases b
    · exact (sm_cut hw (fun j h1 h2 => sf_nz0 (O i j (by omega) h2 (Or.inr h1)))).symm
    · exact (sm_cut hh (fun j h1 h2 => sf_nz0 (O j i h2 (by omega) (Or.inl h1)))).symm
  rw [eo]
  obtain ⟨m, hm, em⟩ : ∃ m : Nat, m ≤ 6 ∧ sf_own (fun i => yce (36 * r + i)) b i = nI m := sm_nat 6 (fun j _ => sf_nz01 _)
  have hk := k (s + sf_tm f ll (sf_own (fun i => yce (36 * r + i)) b i)) (by rw [sm_s, hs])
  rw [em] at hk ⊢
  by_cases z : f % 2 = 1
  · rw [sf_tm_o z] at hk
    have hk' : wY_countRoom_96 post (nI r) (nI f) (sf_bi (!b)) (nI L) ll yP yA yD yrk yrw ywi yfm yce ykd ynu ysz yva yfi yse yat ysp n (s + (if f % 2 = 0 then ll else nI m)) (nI (i + 1)) := by
      rw [if_neg (by omega)]; exact hk
    refine br_c (fun z1 => sy_room131 hf hk') (fun z1 => ⟨by decide, by decide, br_c (fun z2 => sy_room131 hf hk') (fun z2 => br_t rfl (nm_r (nI_1 i) ?_))⟩)
    have m0 : m = 0 := by
      apply Classical.byContradiction
      intro y
      exact z1 (nI_lt (a := 0) (by omega) (by omega))
    subst m0
    have e0 : s + nI 0 = s := Int32.add_zero s
    rw [e0] at hk
    exact hk
  · have hk' : (0 < nI m ∨ f / 2 % 2 = 0) → wY_countRoom_96 post (nI r) (nI f) (sf_bi (!b)) (nI L) ll yP yA yD yrk yrw ywi yfm yce ykd ynu ysz yva yfi yse yat ysp n (s + (if f % 2 = 0 then ll else nI m)) (nI (i + 1)) := fun y => by
      rw [sf_tm_y z y] at hk
      rw [if_pos (by omega)]; exact hk
    refine br_c (fun z1 => sy_room131 hf (hk' (Or.inl z1))) (fun z1 => ⟨by decide, by decide, br_c (fun z2 => sy_room131 hf (hk' (Or.inr ((sf_f4 f hf).mp z2)))) (fun z2 => br_t rfl (nm_r (nI_1 i) ?_))⟩)
    rw [sf_tm_n z (fun y => y.elim z1 (fun y => z2 ((sf_f4 f hf).mpr y))), Int32.add_zero] at hk
    exact hk
def sf_roomv (k h w f : Nat) (g : Nat → Int32) : Int32 :=
  if k = 0 then 1 else if k = 1 then (if f = 0 then nI h else bx_sum (fun i => sf_nz (g i)) 36) else
    if 4 ≤ f then bx_sum (fun l => sf_tm f (nI h) (sf_own g true l)) w else bx_sum (fun l => sf_tm f (nI w) (sf_own g false l)) h
theorem sx_room {post : Int32 → Prop} {xP xD xC : Int32} {xrk xrw xcl xfm xnm xk xa xcp xfi xse xsp xin xva : Nat → Int32} {r k h w f : Nat} (hr : r < 6) (e0 : xrk r = nI k) (e1 : xrw r = nI h) (e2 : xcl r = nI w) (e3 : xfm r = nI f) (S : sf_Sh k h w f) (p : post (sf_roomv k h w f (fun i => xnm (36 * r + i)))) : wpX_countRoom post (xP, xD, xC, xrk, xrw, xcl, xfm, xnm, xk, xa, xcp, xfi, xse, xsp, xin, xva) (nI r) := by
  have hv : vp_in (nI r) 6 := vp_in_nI hr (by decide)
  have ec : (nI r).toNatClampNeg = r := nI_clamp (by omega)
  obtain ⟨s1, s2, s3, s4, s5⟩ := S
  unfold wpX_countRoom
  dsimp only
  rw [ec, e0, e1, e3]
  unfold sf_roomv at p
  by_cases k0 : k = 0
  · rw [if_pos k0] at p
    exact ⟨hv, br_t (by rw [k0]; rfl) p⟩
  rw [if_neg k0] at p
  refine ⟨hv, br_f (nI_ne0 (by omega) (by omega)) ⟨hv, ?_⟩⟩
  by_cases k1 : k = 1
  · rw [if_pos k1] at p
    refine br_t (by rw [k1]; rfl) ⟨hv, ?_⟩
    by_cases f0 : f = 0
    · rw [if_pos f0] at p
      exact br_t (by rw [f0]; rfl) ⟨hv, p⟩
    · rw [if_neg f0] at p
      exact br_f (nI_ne0 (by omega) (by omega)) (sx_cf hr p)
  rw [if_neg k1] at p
  refine br_f (fun y => k1 ((nI_eq (b := 1) (by omega) (by decide)).mp y)) ⟨hv, ?_⟩
  have hf : f < 8 := by omega
  have R77 : ∀ (b : Bool) (z0 : Int32), (∀ x4 : Int32, (x4 = 0 ↔ f % 2 = 0) → wX_countRoom_94 post (nI r) (sf_bi b) z0 x4 xP xD xC xrk xrw xcl xfm xnm xk xa xcp xfi xse xsp xin xva) → wX_countRoom_77 post (nI r) (sf_bi b) z0 xP xD xC xrk xrw xcl xfm xnm xk xa xcp xfi xse xsp xin xva := by
    intro b z0 H
    unfold wX_countRoom_77
    rw [ec, e3]
    refine ⟨hv, br_c (fun z => H 0 ⟨fun _ => (sf_f1 f hf).mp z, fun _ => rfl⟩) (fun z => H 1 ⟨fun y => absurd y (by decide), fun y => absurd ((sf_f1 f hf).mpr y) z⟩)⟩
  have R60 : ∀ (b : Bool), (∀ x3 x4 : Int32, (x3 = 0 ↔ f / 2 % 2 = 0) → (x4 = 0 ↔ f % 2 = 0) → wX_countRoom_94 post (nI r) (sf_bi b) x3 x4 xP xD xC xrk xrw xcl xfm xnm xk xa xcp xfi xse xsp xin xva) → wX_countRoom_60 post (nI r) (sf_bi b) xP xD xC xrk xrw xcl xfm xnm xk xa xcp xfi xse xsp xin xva := by
    intro b H
    unfold wX_countRoom_60
    rw [ec, e3]
    refine ⟨hv, br_c (fun z => R77 b 0 (fun x4 => H 0 x4 ⟨fun _ => (sf_f2 f hf).mp z, fun _ => rfl⟩)) (fun z => R77 b 1 (fun x4 => H 1 x4 ⟨fun y => absurd y (by decide), fun y => absurd ((sf_f2 f hf).mpr y) z⟩))⟩
  by_cases f4 : 4 ≤ f
  · rw [if_pos f4] at p
    refine br_f (nI_nlt (b := 4) f4 (by omega)) (R60 true (fun x3 x4 h3 h4 => br_f (by decide) ⟨hv, br_f (by decide) ⟨hv, nm_r (e' := nI h) (by rw [ec, e1]) ?_⟩⟩))
    rw [ec, e2]
    exact sx_room144 true hr s4 h3 h4 p
  · rw [if_neg f4] at p
    refine br_t (nI_lt (b := 4) (by omega) (by decide)) (R60 false (fun x3 x4 h3 h4 => br_t rfl ⟨hv, br_t rfl ⟨hv, nm_r (e' := nI w) (by rw [ec, e2]) ?_⟩⟩))
    rw [ec, e1]
    exact sx_room144 false hr s2 h3 h4 p
theorem sy_room {post : Int32 → Prop} {yP yA yD : Int32} {yrk yrw ywi yfm yce ykd ynu ysz yva yfi yse yat ysp : Nat → Int32} {r k h w f : Nat} (hr : r < 6) (e0 : yrk r = nI k) (e1 : yrw r = nI h) (e2 : ywi r = nI w) (e3 : yfm r = nI f) (S : sf_Sh k h w f) (O : sf_Out h w (fun i => yce (36 * r + i))) (p : post (sf_roomv k h w f (fun i => yce (36 * r + i)))) : wpY_countRoom post (yP, yA, yD, yrk, yrw, ywi, yfm, yce, ykd, ynu, ysz, yva, yfi, yse, yat, ysp) (nI r) := by
  have hv : vp_in (nI r) 13 := vp_in_nI (by omega) (by decide)
  have ec : (nI r).toNatClampNeg = r := nI_clamp (by omega)
  obtain ⟨s1, s2, s3, s4, s5⟩ := S
  unfold wpY_countRoom
  dsimp only
  rw [ec, e0, e1, e3]
  unfold sf_roomv at p
  refine ⟨hv, nm_e ⟨hv, ?_⟩⟩
  have hf : f < 8 := by omega
  by_cases k2 : k = 2
  · rw [if_neg (by omega), if_neg (by omega)] at p
    refine br_t (nI_le (a := 2) (by omega) (by omega)) ?_
    by_cases f4 : 4 ≤ f
    · rw [if_pos f4] at p
      refine br_t (nI_le (a := 4) f4 (by omega)) (br_t rfl ⟨hv, br_t rfl ⟨hv, nm_r (e' := nI h) (by rw [ec, e1]) ?_⟩⟩)
      rw [ec, e2]
      exact sy_room96 true hr hf (Nat.le_refl w) e1 e2 s2 s4 O p
    · rw [if_neg f4] at p
      refine br_f (nI_ge (b := 4) (by omega) (by decide)) (br_f (by decide) ⟨hv, br_f (by decide) ⟨hv, nm_r (e' := nI w) (by rw [ec, e2]) ?_⟩⟩)
      rw [ec, e1]
      exact sy_room96 false hr hf (Nat.le_refl h) e1 e2 s2 s4 O p
  · refine br_f (nI_ge (b := 2) (by omega) (by decide)) ?_
    by_cases k0 : k = 0
    · rw [if_pos k0] at p
      have hf0 : f = 0 := by omega
      have hh1 : h = 1 := by omega
      subst hf0 hh1
      exact br_f (by decide) ⟨hv, p⟩
    · rw [if_neg k0, if_pos (by omega)] at p
      by_cases f0 : f = 0
      · rw [if_pos f0] at p
        exact br_f (by rw [f0]; decide) ⟨hv, p⟩
      · rw [if_neg f0] at p
        have hf1 : f = 1 := by omega
        exact br_t (by rw [hf1]; rfl) (sy_cf hr e1 e2 s2 s4 O p)
theorem sf_roomv_cg {k h w f : Nat} {g g' : Nat → Int32} (hh : h ≤ 6) (hw : w ≤ 6) (e : ∀ i, i < 36 → g i = g' i) : sf_roomv k h w f g = sf_roomv k h w f g' := by
  unfold sf_roomv
  have e1 : bx_sum (fun i => sf_nz (g i)) 36 = bx_sum (fun i => sf_nz (g' i)) 36 := sm_cg 36 (fun i hi => by rw [e i hi])
  have e2 : ∀ b l, l < 6 → sf_own g b l = sf_own g' b l := fun b l hl => sm_cg 6 (fun i hi => by rw [e _ (sf_lx_lt b hl hi)])
  have e3 : bx_sum (fun l => sf_tm f (nI h) (sf_own g true l)) w = bx_sum (fun l => sf_tm f (nI h) (sf_own g' true l)) w := sm_cg w (fun l hl => by rw [e2 true l (by omega)])
  have e4 : bx_sum (fun l => sf_tm f (nI w) (sf_own g false l)) h = bx_sum (fun l => sf_tm f (nI w) (sf_own g' false l)) h := sm_cg h (fun l hl => by rw [e2 false l (by omega)])
  rw [e1, e3, e4]
