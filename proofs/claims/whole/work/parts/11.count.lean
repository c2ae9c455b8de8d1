def sf_bi (b : Bool) : Int32 := if b then 1 else 0
def sf_lx (b : Bool) (l k : Nat) : Nat := if b then 6 * k + l else 6 * l + k
theorem sf_lx_lt (b : Bool) {l k : Nat} (hl : l < 6) (hk : k < 6) : sf_lx b l k < 36 := by
  cases b
  · show 6 * l + k < 36; omega
  · show 6 * k + l < 36; omega
theorem sx_cf {post : Int32 → Prop} {xP xD xC : Int32} {xrk xrw xcl xfm xnm xk xa xcp xfi xse xsp xin xva : Nat → Int32} {r : Nat} (hr : r < 6) (h : post (bx_sum (fun i => sf_nz (xnm (36 * r + i))) 36)) : wpX_countFilled post (xP, xD, xC, xrk, xrw, xcl, xfm, xnm, xk, xa, xcp, xfi, xse, xsp, xin, xva) (nI r) := by
  unfold wpX_countFilled
  dsimp only
  refine pk_loop (fun n i (s : Int32) => wX_countFilled_4 post (nI r) xP xD xC xrk xrw xcl xfm xnm xk xa xcp xfi xse xsp xin xva n s (nI i)) (fun i s => s = bx_sum (fun i => sf_nz (xnm (36 * r + i))) i) 36 0 0 (by omega) rfl (fun n s hs => br_t (nI_le (a := 36) (b := 36) (by omega) (by decide)) (by rw [hs]; exact h)) (fun n i s hi hs k => ?_)
  have e : nI r * 36 + nI i = nI (36 * r + i) := sf_xp r i
  have ec : (nI (36 * r + i)).toNatClampNeg = 36 * r + i := nI_clamp (by omega)
  refine br_f (nI_ge (b := 36) hi (by decide)) ⟨by rw [e]; exact vp_in_nI (by omega) (by decide), br_c (fun z => nm_r (nI_1 i) (k s ?_)) (fun z => nm_e (nm_r (nI_1 i) (k (s + 1) ?_)))⟩
  · rw [e, ec] at z
    rw [sm_s, hs, sf_nz0 z, Int32.add_zero]
  · rw [e, ec] at z
    rw [sm_s, hs, sf_nz1 z]
theorem sx_cl34 {post : Int32 → Prop} {J : Int32 → Int32 → Prop} {xP xD xC : Int32} {xrk xrw xcl xfm xnm xk xa xcp xfi xse xsp xin xva : Nat → Int32} {r q i : Nat} {x2 x3 s : Int32} (hq : 36 * r + q < 216) (h : J (s + sf_nz (xnm (36 * r + q))) (nI (i + 1))) : wX_countFilledInLine_34 post J (nI r) x2 x3 s (nI i) (nI q) xP xD xC xrk xrw xcl xfm xnm xk xa xcp xfi xse xsp xin xva := by
  have e : nI r * 36 + nI q = nI (36 * r + q) := sf_xp r q
  have ec : (nI (36 * r + q)).toNatClampNeg = 36 * r + q := nI_clamp (by omega)
  refine ⟨by rw [e]; exact vp_in_nI hq (by decide), br_c (fun z => nm_r (nI_1 i) ?_) (fun z => nm_e (nm_r (nI_1 i) ?_))⟩
  · rw [e, ec] at z
    rw [sf_nz0 z, Int32.add_zero] at h
    exact h
  · rw [e, ec] at z
    rw [sf_nz1 z] at h
    exact h
theorem sf_6a (l k : Nat) : nI l * 6 + nI k = nI (6 * l + k) := by
  show nI l * nI 6 + nI k = _
  rw [pk_mul, nI_add]
  exact congrArg nI (by omega)
theorem sx_line {post : Int32 → Prop} {xP xD xC : Int32} {xrk xrw xcl xfm xnm xk xa xcp xfi xse xsp xin xva : Nat → Int32} (b : Bool) {r l : Nat} (hr : r < 6) (hl : l < 6) (h : post (bx_sum (fun k => sf_nz (xnm (36 * r + sf_lx b l k))) 6)) : wpX_countFilledInLine post (xP, xD, xC, xrk, xrw, xcl, xfm, xnm, xk, xa, xcp, xfi, xse, xsp, xin, xva) (nI r) (nI l) (sf_bi b) := by
  unfold wpX_countFilledInLine
  dsimp only
  refine pk_loop (fun n i (s : Int32) => wX_countFilledInLine_6 post (nI r) (nI l) (sf_bi b) xP xD xC xrk xrw xcl xfm xnm xk xa xcp xfi xse xsp xin xva n s (nI i)) (fun i s => s = bx_sum (fun k => sf_nz (xnm (36 * r + sf_lx b l k))) i) 6 0 0 (by omega) rfl (fun n s hs => br_t (nI_le (a := 6) (b := 6) (by omega) (by decide)) (by rw [hs]; exact h)) (fun n i s hi hs k => ?_)
  have hk := k (s + sf_nz (xnm (36 * r + sf_lx b l i))) (by rw [sm_s, hs])
  have hq := sf_lx_lt b hl hi
  refine br_f (nI_ge (b := 6) hi (by decide)) ?_
  cases b
  · refine br_t rfl ?_
    rw [sf_6a]
    exact sx_cl34 (q := 6 * l + i) (by omega) hk
  · refine br_f (by decide) ?_
    rw [sf_6a]
    exact sx_cl34 (q := 6 * i + l) (by omega) hk
theorem sy_cl56 {post : Int32 → Prop} {J : Int32 → Int32 → Prop} {yP yA yD : Int32} {yrk yrw ywi yfm yce ykd ynu ysz yva yfi yse yat ysp : Nat → Int32} {r a b i : Nat} {x2 x3 x5 s : Int32} (hr : r < 6) (ha : a < 6) (hb : b < 6) (h : J (s + sf_nz (yce (36 * r + (6 * a + b)))) (nI (i + 1))) : wY_countLine_56 post J (nI r) x2 x3 s x5 (nI i) (nI a) (nI b) yP yA yD yrk yrw ywi yfm yce ykd ynu ysz yva yfi yse yat ysp := by
  have e : 36 * nI r + 6 * nI a + nI b = nI (36 * r + 6 * a + b) := sf_yi r a b
  have ec : (nI (36 * r + 6 * a + b)).toNatClampNeg = 36 * r + (6 * a + b) := by rw [nI_clamp (by omega)]; omega
  refine ⟨by rw [e]; exact vp_in_nI (by omega) (by decide), br_c (fun z => nm_r (nI_1 i) ?_) (fun z => nm_e (nm_r (nI_1 i) ?_))⟩
  · rw [e, ec] at z
    rw [sf_nz0 z, Int32.add_zero] at h
    exact h
  · rw [e, ec] at z
    rw [sf_nz1 z] at h
    exact h
theorem sy_line {post : Int32 → Prop} {yP yA yD : Int32} {yrk yrw ywi yfm yce ykd ynu ysz yva yfi yse yat ysp : Nat → Int32} (b : Bool) {r l h w : Nat} (hr : r < 6) (hl : l < 6) (e1 : yrw r = nI h) (e2 : ywi r = nI w) (hh : h ≤ 6) (hw : w ≤ 6) (p : post (bx_sum (fun k => sf_nz (yce (36 * r + sf_lx b l k))) (if b then h else w))) : wpY_countLine post (yP, yA, yD, yrk, yrw, ywi, yfm, yce, ykd, ynu, ysz, yva, yfi, yse, yat, ysp) (nI r) (nI l) (sf_bi (!b)) := by
  unfold wpY_countLine
  dsimp only
  have hv : vp_in (nI r) 13 := vp_in_nI (by omega) (by decide)
  have ec : (nI r).toNatClampNeg = r := nI_clamp (by omega)
  have main : ∀ m : Nat, m ≤ 6 → post (bx_sum (fun k => sf_nz (yce (36 * r + sf_lx b l k))) m) → ∃ n, wY_countLine_27 post (nI r) (nI l) (sf_bi (!b)) (nI m) yP yA yD yrk yrw ywi yfm yce ykd ynu ysz yva yfi yse yat ysp n 0 0 := by
    intro m hm p
    refine pk_loop (fun n i (s : Int32) => wY_countLine_27 post (nI r) (nI l) (sf_bi (!b)) (nI m) yP yA yD yrk yrw ywi yfm yce ykd ynu ysz yva yfi yse yat ysp n s (nI i)) (fun i s => s = bx_sum (fun k => sf_nz (yce (36 * r + sf_lx b l k))) i) m 0 0 (by omega) rfl (fun n s hs => br_t (nI_le (a := m) (b := m) (by omega) (by omega)) (by rw [hs]; exact p)) (fun n i s hi hs k => ?_)
    have hk := k (s + sf_nz (yce (36 * r + sf_lx b l i))) (by rw [sm_s, hs])
    refine br_f (nI_ge hi (by omega)) ?_
    cases b
    · exact br_f (by decide) (br_f (by decide) (sy_cl56 (a := l) (b := i) hr hl (by omega) hk))
    · exact br_t rfl (br_t rfl (sy_cl56 (a := i) (b := l) hr (by omega) hl hk))
  cases b
  · exact br_f (by decide) ⟨hv, nm_r (e' := nI w) (by rw [ec, e2]) (main w hw p)⟩
  · exact br_t rfl ⟨hv, nm_r (e' := nI h) (by rw [ec, e1]) (main h hh p)⟩
theorem sy_cf {post : Int32 → Prop} {yP yA yD : Int32} {yrk yrw ywi yfm yce ykd ynu ysz yva yfi yse yat ysp : Nat → Int32} {r h w : Nat} (hr : r < 6) (e1 : yrw r = nI h) (e2 : ywi r = nI w) (hh : h ≤ 6) (hw : w ≤ 6) (O : sf_Out h w (fun i => yce (36 * r + i))) (p : post (bx_sum (fun i => sf_nz (yce (36 * r + i))) 36)) : wpY_countFilled post (yP, yA, yD, yrk, yrw, ywi, yfm, yce, ykd, ynu, ysz, yva, yfi, yse, yat, ysp) (nI r) := by
  unfold wpY_countFilled
  dsimp only
  have hv : vp_in (nI r) 13 := vp_in_nI (by omega) (by decide)
  have ec : (nI r).toNatClampNeg = r := nI_clamp (by omega)
  rw [sm_block hh hw (fun i j hi hj hz => sf_nz0 (O i j hi hj hz))] at p
  refine pk_loop (fun n i (s : Int32) => wY_countFilled_4 post (nI r) yP yA yD yrk yrw ywi yfm yce ykd ynu ysz yva yfi yse yat ysp n s (nI i)) (fun i s => s = bx_sum (fun i => bx_sum (fun j => sf_nz (yce (36 * r + (6 * i + j)))) w) i) h 0 0 (by omega) rfl (fun n s hs => ⟨hv, br_t (by rw [ec, e1]; exact nI_le (by omega) (by omega)) (by rw [hs]; exact p)⟩) (fun n i s hi hs k => ⟨hv, br_f (by rw [ec, e1]; exact nI_ge hi (by omega)) ?_⟩)
  exact sy_line false hr (by omega) e1 e2 hh hw (nm_e (nm_r (nI_1 i) (k _ (by rw [sm_s, hs]; rfl))))
