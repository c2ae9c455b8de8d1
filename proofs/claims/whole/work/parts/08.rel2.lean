/-- the relation: equal registers, and one row of parts told in two ways -/
def i_Rel (_ : Nat) (u : SX) (v : SY) : Prop := match u with
  | (xP, xD, xC, xrk, xrw, xcl, xfm, xnm, xk, xa, xcp, xfi, xse, xsp, xin, xva) => match v with
    | (yP, yA, yD, yrk, yrw, ywi, yfm, yce, ykd, ynu, ysz, yva, yfi, yse, yat, ysp) => ∃ n c d : Nat, (xP = nI n ∧ xD = nI d ∧ xC = nI c ∧ yP = nI n ∧ yA = nI c ∧ yD = nI d) ∧ sf_Regs xrk xrw xcl xfm xnm yrk yrw ywi yfm yce ∧ sf_Form n c d xk xa xcp xfi xse xsp yce ykd ynu ysz yfi yse yrw ywi
theorem i_up {k : Nat} {u : SX} {v : SY} (h : i_Rel k u v) : i_Rel (k + 5) u v := h
theorem sf_mk {k n c d : Nat} {xrk xrw xcl xfm xnm xk xa xcp xfi xse xsp xin xva yrk yrw ywi yfm yce ykd ynu ysz yva yfi yse yat ysp : Nat → Int32} (G : sf_Regs xrk xrw xcl xfm xnm yrk yrw ywi yfm yce) (F : sf_Form n c d xk xa xcp xfi xse xsp yce ykd ynu ysz yfi yse yrw ywi) : i_Rel k (nI n, nI d, nI c, xrk, xrw, xcl, xfm, xnm, xk, xa, xcp, xfi, xse, xsp, xin, xva) (nI n, nI c, nI d, yrk, yrw, ywi, yfm, yce, ykd, ynu, ysz, yva, yfi, yse, yat, ysp) :=
  ⟨n, c, d, ⟨rfl, rfl, rfl, rfl, rfl, rfl⟩, G, F⟩
def sf_rg (r : Int32) : Prop := ∃ k : Nat, k < 6 ∧ r = nI k
theorem sx_reg_t {post : Int32 → Prop} {k : Nat} (h : k < 6) (p : post 1) : wpX_isRegister post (nI k) :=
  br_f (nI_pos (by omega)) (br_f (nI_ge (b := 6) h (by decide)) p)
theorem sx_reg_f {post : Int32 → Prop} {r : Int32} (h : ¬ sf_rg r) (p : post 0) : wpX_isRegister post r := by
  rcases pk_ix r (n := 6) (by decide) with z | z | ⟨j, hj, e⟩
  · exact br_t z p
  · exact br_c (fun _ => p) (fun _ => br_t z p)
  · exact absurd ⟨j, hj, e⟩ h
theorem sy_reg_t {post : Int32 → Prop} {v : SY} {k : Nat} (h : k < 6) (p : post 1) : wpY_isRegister post v (nI k) := by
  obtain ⟨yP, yA, yD, yrk, yrw, ywi, yfm, yce, ykd, ynu, ysz, yva, yfi, yse, yat, ysp⟩ := v
  exact br_f (nI_pos (by omega)) (br_f (nI_nlt (a := 5) (b := k) (by omega) (by omega)) p)
theorem sy_reg_f {post : Int32 → Prop} {v : SY} {r : Int32} (h : ¬ sf_rg r) (p : post 0) : wpY_isRegister post v r := by
  obtain ⟨yP, yA, yD, yrk, yrw, ywi, yfm, yce, ykd, ynu, ysz, yva, yfi, yse, yat, ysp⟩ := v
  rcases pk_ix r (n := 6) (by decide) with z | z | ⟨j, hj, e⟩
  · exact br_t z p
  · refine br_c (fun _ => p) (fun h0 => br_t ?_ p)
    obtain ⟨j, hj, rfl⟩ := nI_of h0
    have := (nI_leI (a := 6) (b := j) (by decide) hj).mp z
    exact nI_lt (a := 5) (b := j) (by omega) hj
  · exact absurd ⟨j, hj, e⟩ h
def sf_fm (k : Nat) : Nat := if k = 0 then 0 else if k = 1 then 1 else 7
def sf_fg (k : Nat) (f : Int32) : Prop := ∃ j : Nat, j ≤ sf_fm k ∧ f = nI j
theorem sx_fmt19_t {post : Int32 → Prop} {m j : Nat} (h : j ≤ m) (hm : m ≤ 7) (p : post 1) : wX_isFormat_19 post (nI j) (nI m) :=
  br_f (nI_pos (by omega)) (br_f (nI_nlt (a := m) (b := j) h (by omega)) p)
theorem sx_fmt19_f {post : Int32 → Prop} {m : Nat} {f : Int32} (hm : m ≤ 7) (h : ¬ ∃ j : Nat, j ≤ m ∧ f = nI j) (p : post 0) : wX_isFormat_19 post f (nI m) := by
  refine br_c (fun _ => p) (fun h0 => br_t ?_ p)
  obtain ⟨j, hj, rfl⟩ := nI_of h0
  exact nI_lt (a := m) (b := j) (by
    have : ¬ j ≤ m := fun z => h ⟨j, z, rfl⟩
    omega) hj
theorem sx_fmt_t {post : Int32 → Prop} {k j : Nat} (hk : k ≤ 2) (h : j ≤ sf_fm k) (p : post 1) : wpX_isFormat post (nI k) (nI j) := by
  match k, hk, h with
  | 0, _, h => exact br_t rfl (sx_fmt19_t (m := 0) h (by decide) p)
  | 1, _, h => exact br_f (by decide) (br_t rfl (sx_fmt19_t (m := 1) h (by decide) p))
  | 2, _, h => exact br_f (by decide) (br_f (by decide) (sx_fmt19_t (m := 7) h (by decide) p))
theorem sx_fmt_f {post : Int32 → Prop} {k : Nat} {f : Int32} (hk : k ≤ 2) (h : ¬ sf_fg k f) (p : post 0) : wpX_isFormat post (nI k) f := by
  match k, hk, h with
  | 0, _, h => exact br_t rfl (sx_fmt19_f (m := 0) (by decide) h p)
  | 1, _, h => exact br_f (by decide) (br_t rfl (sx_fmt19_f (m := 1) (by decide) h p))
  | 2, _, h => exact br_f (by decide) (br_f (by decide) (sx_fmt19_f (m := 7) (by decide) h p))
theorem sy_fmt_t {post : Int32 → Prop} {v : SY} {k j : Nat} (hk : k ≤ 2) (h : j ≤ sf_fm k) (p : post 1) : wpY_isFormat post v (nI k) (nI j) := by
  obtain ⟨yP, yA, yD, yrk, yrw, ywi, yfm, yce, ykd, ynu, ysz, yva, yfi, yse, yat, ysp⟩ := v
  have h7 : sf_fm k ≤ 7 := by
    unfold sf_fm
    split
    · omega
    · split <;> omega
  have h0 : ¬ nI j < 0 := nI_pos (by omega)
  match k, hk, h with
  | 0, _, h => exact br_f h0 (br_t rfl (br_f (nI_nlt (a := 0) (b := j) h (by omega)) p))
  | 1, _, h => exact br_f h0 (br_f (by decide) (br_t rfl (br_f (nI_nlt (a := 1) (b := j) h (by omega)) p)))
  | 2, _, h => exact br_f h0 (br_f (by decide) (br_f (by decide) (br_f (nI_nlt (a := 7) (b := j) h (by omega)) p)))
theorem sy_fmt_f {post : Int32 → Prop} {v : SY} {k : Nat} {f : Int32} (hk : k ≤ 2) (h : ¬ sf_fg k f) (p : post 0) : wpY_isFormat post v (nI k) f := by
  obtain ⟨yP, yA, yD, yrk, yrw, ywi, yfm, yce, ykd, ynu, ysz, yva, yfi, yse, yat, ysp⟩ := v
  refine br_c (fun _ => p) (fun h0 => ?_)
  obtain ⟨j, hj, rfl⟩ := nI_of h0
  have hn : ¬ j ≤ sf_fm k := fun z => h ⟨j, z, rfl⟩
  match k, hk, hn with
  | 0, _, h => exact br_t rfl (br_t (nI_lt (a := 0) (b := j) (Nat.lt_of_not_le h) hj) p)
  | 1, _, h => exact br_f (by decide) (br_t rfl (br_t (nI_lt (a := 1) (b := j) (Nat.lt_of_not_le h) hj) p))
  | 2, _, h => exact br_f (by decide) (br_f (by decide) (br_t (nI_lt (a := 7) (b := j) (Nat.lt_of_not_le h) hj) p))
/-- a place of a register of h rows and w columns -/
def sf_pl (h w : Nat) (i j : Int32) : Prop := ∃ a b : Nat, a < h ∧ b < w ∧ i = nI a ∧ j = nI b
theorem sx_place_t {post : Int32 → Prop} {xP xD xC : Int32} {xrk xrw xcl xfm xnm xk xa xcp xfi xse xsp xin xva : Nat → Int32} {r h w a b : Nat} (hr : r < 6) (e1 : xrw r = nI h) (e2 : xcl r = nI w) (hh : h ≤ 6) (hw : w ≤ 6) (ha : a < h) (hb : b < w) (p : post 1) : wpX_isPlace post (xP, xD, xC, xrk, xrw, xcl, xfm, xnm, xk, xa, xcp, xfi, xse, xsp, xin, xva) (nI r) (nI a) (nI b) := by
  have hv : vp_in (nI r) 6 := vp_in_nI hr (by decide)
  have ec : (nI r).toNatClampNeg = r := nI_clamp (by omega)
  refine br_f (nI_pos (by omega)) ⟨hv, br_f ?_ (br_f (nI_pos (by omega)) ⟨hv, br_f ?_ p⟩)⟩
  · rw [ec, e1]; exact nI_ge ha (by omega)
  · rw [ec, e2]; exact nI_ge hb (by omega)
theorem sx_place_f {post : Int32 → Prop} {xP xD xC : Int32} {xrk xrw xcl xfm xnm xk xa xcp xfi xse xsp xin xva : Nat → Int32} {r h w : Nat} {i j : Int32} (hr : r < 6) (e1 : xrw r = nI h) (e2 : xcl r = nI w) (hh : h ≤ 6) (hw : w ≤ 6) (hn : ¬ sf_pl h w i j) (p : post 0) : wpX_isPlace post (xP, xD, xC, xrk, xrw, xcl, xfm, xnm, xk, xa, xcp, xfi, xse, xsp, xin, xva) (nI r) i j := by
  have hv : vp_in (nI r) 6 := vp_in_nI hr (by decide)
  have ec : (nI r).toNatClampNeg = r := nI_clamp (by omega)
  refine br_c (fun _ => p) (fun h0 => ⟨hv, br_c (fun _ => p) (fun h1 => br_c (fun _ => p) (fun h2 => ⟨hv, br_c (fun _ => p) (fun h3 => absurd ?_ hn)⟩))⟩)
  obtain ⟨a, ha, rfl⟩ := nI_of h0
  obtain ⟨b, hb, rfl⟩ := nI_of h2
  rw [ec, e1, nI_leI (by omega) ha] at h1
  rw [ec, e2, nI_leI (by omega) hb] at h3
  exact ⟨a, b, by omega, by omega, rfl, rfl⟩
theorem sy_place_t {post : Int32 → Prop} {yP yA yD : Int32} {yrk yrw ywi yfm yce ykd ynu ysz yva yfi yse yat ysp : Nat → Int32} {r h w a b : Nat} (hr : r < 6) (e1 : yrw r = nI h) (e2 : ywi r = nI w) (hh : h ≤ 6) (hw : w ≤ 6) (ha : a < h) (hb : b < w) (p : post 1) : wpY_isPlace post (yP, yA, yD, yrk, yrw, ywi, yfm, yce, ykd, ynu, ysz, yva, yfi, yse, yat, ysp) (nI r) (nI a) (nI b) := by
  have hv : vp_in (nI r) 13 := vp_in_nI (by omega) (by decide)
  have ec : (nI r).toNatClampNeg = r := nI_clamp (by omega)
  refine br_f (nI_pos (by omega)) ⟨hv, br_f ?_ (br_f (nI_pos (by omega)) ⟨hv, br_f ?_ p⟩)⟩
  · rw [ec, e1]; exact nI_ge ha (by omega)
  · rw [ec, e2]; exact nI_ge hb (by omega)
theorem sy_place_f {post : Int32 → Prop} {yP yA yD : Int32} {yrk yrw ywi yfm yce ykd ynu ysz yva yfi yse yat ysp : Nat → Int32} {r h w : Nat} {i j : Int32} (hr : r < 6) (e1 : yrw r = nI h) (e2 : ywi r = nI w) (hh : h ≤ 6) (hw : w ≤ 6) (hn : ¬ sf_pl h w i j) (p : post 0) : wpY_isPlace post (yP, yA, yD, yrk, yrw, ywi, yfm, yce, ykd, ynu, ysz, yva, yfi, yse, yat, ysp) (nI r) i j := by
  have hv : vp_in (nI r) 13 := vp_in_nI (by omega) (by decide)
  have ec : (nI r).toNatClampNeg = r := nI_clamp (by omega)
  refine br_c (fun _ => p) (fun h0 => ⟨hv, br_c (fun _ => p) (fun h1 => br_c (fun _ => p) (fun h2 => ⟨hv, br_c (fun _ => p) (fun h3 => absurd ?_ hn)⟩))⟩)
  obtain ⟨a, ha, rfl⟩ := nI_of h0
  obtain ⟨b, hb, rfl⟩ := nI_of h2
  rw [ec, e1, nI_leI (by omega) ha] at h1
  rw [ec, e2, nI_leI (by omega) hb] at h3
  exact ⟨a, b, by omega, by omega, rfl, rfl⟩
theorem sx_shape {post : SX → Prop} {xP xD xC : Int32} {xrk xrw xcl xfm xnm xk xa xcp xfi xse xsp xin xva : Nat → Int32} {r : Nat} (hr : r < 6) (p1 p2 p3 p4 : Int32) (h : ∀ A, sf_blk (36 * r) 36 (fun _ => 0) xnm A → post (xP, xD, xC, upd xrk r p1, upd xrw r p2, upd xcl r p3, upd xfm r p4, A, xk, xa, xcp, xfi, xse, xsp, xin, xva)) : wpX_shape post (xP, xD, xC, xrk, xrw, xcl, xfm, xnm, xk, xa, xcp, xfi, xse, xsp, xin, xva) (nI r) p1 p2 p3 p4 := by
  have hv : vp_in (nI r) 6 := vp_in_nI hr (by decide)
  have ec : (nI r).toNatClampNeg = r := nI_clamp (by omega)
  refine ⟨hv, nm_r (e' := upd xrk r p1) (by rw [ec]) ⟨hv, nm_r (e' := upd xrw r p2) (by rw [ec]) ⟨hv, nm_r (e' := upd xcl r p3) (by rw [ec]) ⟨hv, nm_r (e' := upd xfm r p4) (by rw [ec]) ?_⟩⟩⟩⟩
  refine pk_loop (fun n i (A : Nat → Int32) => wX_shape_33 post (nI r) xP xD xC n (nI i) (upd xrk r p1) (upd xrw r p2) (upd xcl r p3) (upd xfm r p4) A xk xa xcp xfi xse xsp xin xva) (fun i A => sf_blk (36 * r) i (fun _ => 0) xnm A) 36 0 xnm (by omega) (sf_blk_0 _ _ _) (fun n A hA => br_t (nI_le (a := 36) (b := 36) (by omega) (by decide)) (h A hA)) (fun n i A hi hA k => ?_)
  have e : nI r * 36 + nI i = nI (36 * r + i) := sf_xp r i
  refine br_f (nI_ge (b := 36) hi (by decide)) ⟨by rw [e]; exact vp_in_nI (by omega) (by decide), nm_r (e' := upd A (36 * r + i) 0) (by rw [e, nI_clamp (by omega)]) (nm_r (nI_1 i) (k _ (sf_blk_s hA rfl)))⟩
theorem sy_shape {post : SY → Prop} {yP yA yD : Int32} {yrk yrw ywi yfm yce ykd ynu ysz yva yfi yse yat ysp : Nat → Int32} {r : Nat} (hr : r < 13) (n m f : Int32) (h : ∀ A, sf_blk (36 * r) 36 (fun _ => 0) yce A → post (yP, yA, yD, upd yrk r (if n = 0 then 0 else if m = 0 then 1 else 2), upd yrw r (if n = 0 then 1 else n), upd ywi r (if m = 0 then 1 else m), upd yfm r f, A, ykd, ynu, ysz, yva, yfi, yse, yat, ysp)) : wpY_shape post (yP, yA, yD, yrk, yrw, ywi, yfm, yce, ykd, ynu, ysz, yva, yfi, yse, yat, ysp) (nI r) n m f := by
  have hv : vp_in (nI r) 13 := vp_in_nI hr (by decide)
  have ec : (nI r).toNatClampNeg = r := nI_clamp (by omega)
  have main : ∀ a b c : Int32, (∀ A, sf_blk (36 * r) 36 (fun _ => 0) yce A → post (yP, yA, yD, upd yrk r a, upd yrw r b, upd ywi r c, upd yfm r f, A, ykd, ynu, ysz, yva, yfi, yse, yat, ysp)) → wY_shape_52 post (nI r) f c (nI r) yP yA yD (upd yrk r a) (upd yrw r b) ywi yfm yce ykd ynu ysz yva yfi yse yat ysp := by
    intro a b c h
    refine ⟨hv, nm_r (e' := upd ywi r c) (by rw [ec]) ⟨hv, nm_r (e' := upd yfm r f) (by rw [ec]) ?_⟩⟩
    refine pk_loop (fun n i (A : Nat → Int32) => wY_shape_64 post (nI r) yP yA yD n (nI i) (upd yrk r a) (upd yrw r b) (upd ywi r c) (upd yfm r f) A ykd ynu ysz yva yfi yse yat ysp) (fun i A => sf_blk (36 * r) i (fun _ => 0) yce A) 36 0 yce (by omega) (sf_blk_0 _ _ _) (fun n A hA => br_t (nI_le (a := 36) (b := 36) (by omega) (by decide)) (h A hA)) (fun n i A hi hA k => ?_)
    have e : 36 * nI r + nI i = nI (36 * r + i) := sf_yp r i
    refine br_f (nI_ge (b := 36) hi (by decide)) ⟨by rw [e]; exact vp_in_nI (by omega) (by decide), nm_r (e' := upd A (36 * r + i) 0) (by rw [e, nI_clamp (by omega)]) (nm_r (nI_1 i) (k _ (sf_blk_s hA rfl)))⟩
  have m2 : ∀ a b : Int32, (∀ A, sf_blk (36 * r) 36 (fun _ => 0) yce A → post (yP, yA, yD, upd yrk r a, upd yrw r b, upd ywi r (if m = 0 then 1 else m), upd yfm r f, A, ykd, ynu, ysz, yva, yfi, yse, yat, ysp)) → wY_shape_37 post (nI r) m f b (nI r) yP yA yD (upd yrk r a) yrw ywi yfm yce ykd ynu ysz yva yfi yse yat ysp := by
    intro a b h
    refine ⟨hv, nm_r (e' := upd yrw r b) (by rw [ec]) (br_c (fun z => ?_) (fun z => ?_))⟩
    · rw [if_pos z] at h; exact main a b 1 h
    · rw [if_neg z] at h; exact main a b m h
  have m3 : ∀ a : Int32, (∀ A, sf_blk (36 * r) 36 (fun _ => 0) yce A → post (yP, yA, yD, upd yrk r a, upd yrw r (if n = 0 then 1 else n), upd ywi r (if m = 0 then 1 else m), upd yfm r f, A, ykd, ynu, ysz, yva, yfi, yse, yat, ysp)) → wY_shape_22 post (nI r) n m f a (nI r) yP yA yD yrk yrw ywi yfm yce ykd ynu ysz yva yfi yse yat ysp := by
    intro a h
    refine ⟨hv, nm_r (e' := upd yrk r a) (by rw [ec]) (br_c (fun z => ?_) (fun z => ?_))⟩
    · rw [if_pos z] at h; exact m2 a 1 h
    · rw [if_neg z] at h; exact m2 a n h
  refine br_c (fun z => m3 0 ?_) (fun z => br_c (fun z2 => m3 1 ?_) (fun z2 => m3 2 ?_))
  · rw [if_pos z] at h; exact h
  · rw [if_neg z, if_pos z2] at h; exact h
  · rw [if_neg z, if_neg z2] at h; exact h
