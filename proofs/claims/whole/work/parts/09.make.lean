def sf_rk (n m : Nat) : Nat := if n = 0 then 0 else if m = 0 then 1 else 2
theorem sf_rk_le (n m : Nat) : sf_rk n m ≤ 2 := by
  unfold sf_rk
  split
  · omega
  · split <;> omega
def sf_mok (v1 v2 v3 v4 : Int32) : Prop := ∃ r n m j : Nat, r < 6 ∧ n ≤ 6 ∧ m ≤ 6 ∧ (n = 0 → m = 0) ∧ j ≤ sf_fm (sf_rk n m) ∧ v1 = nI r ∧ v2 = nI n ∧ v3 = nI m ∧ v4 = nI j
theorem sx_make38 {post : Int32 → SX → Prop} {xP xD xC : Int32} {xrk xrw xcl xfm xnm xk xa xcp xfi xse xsp xin xva : Nat → Int32} {x1 x4 : Int32} {n m : Nat} (hn : n ≤ 6) (hm : m ≤ 6) (h : wX_make_55 post x1 (nI n) (nI m) x4 (nI (sf_rk n m)) xP xD xC xrk xrw xcl xfm xnm xk xa xcp xfi xse xsp xin xva) : wX_make_38 post x1 (nI n) (nI m) x4 xP xD xC xrk xrw xcl xfm xnm xk xa xcp xfi xse xsp xin xva := by
  unfold sf_rk at h
  by_cases z : n = 0
  · subst z
    rw [if_pos rfl] at h
    exact br_t rfl h
  · have z' : ¬ nI n = 0 := nI_ne0 (by omega) (by omega)
    rw [if_neg z] at h
    by_cases z2 : m = 0
    · subst z2
      rw [if_pos rfl] at h
      exact br_f z' (br_t rfl h)
    · rw [if_neg z2] at h
      exact br_f z' (br_f (nI_ne0 (by omega) (by omega)) h)
theorem sx_make_bad {post : Int32 → SX → Prop} {xP xD xC : Int32} {xrk xrw xcl xfm xnm xk xa xcp xfi xse xsp xin xva : Nat → Int32} {v1 v2 v3 v4 : Int32} (hn : ¬ sf_mok v1 v2 v3 v4) (p : post (-1000000001) (xP, xD, xC, xrk, xrw, xcl, xfm, xnm, xk, xa, xcp, xfi, xse, xsp, xin, xva)) : wpX_make post (xP, xD, xC, xrk, xrw, xcl, xfm, xnm, xk, xa, xcp, xfi, xse, xsp, xin, xva) v1 v2 v3 v4 := by
  unfold wpX_make
  dsimp only
  by_cases hr : sf_rg v1
  · obtain ⟨r, hr, rfl⟩ := hr
    refine sx_reg_t hr (br_f (by decide) (br_c (fun _ => p) (fun h1 => br_c (fun _ => p) (fun h2 => br_c (fun _ => p) (fun h3 => br_c (fun _ => p) (fun h4 => ?_))))))
    obtain ⟨n, hn1, rfl⟩ := nI_of h1
    obtain ⟨m, hm1, rfl⟩ := nI_of h3
    have hn6 : n ≤ 6 := Nat.not_lt.mp (fun z => h2 (nI_lt (a := 6) z hn1))
    have hm6 : m ≤ 6 := Nat.not_lt.mp (fun z => h4 (nI_lt (a := 6) z hm1))
    have H : (n = 0 → m = 0) → wX_make_38 post (nI r) (nI n) (nI m) v4 xP xD xC xrk xrw xcl xfm xnm xk xa xcp xfi xse xsp xin xva := fun hz =>
      sx_make38 hn6 hm6 (sx_fmt_f (sf_rk_le n m) (fun ⟨j, hj, e⟩ => hn ⟨r, n, m, j, hr, hn6, hm6, hz, hj, rfl, rfl, rfl, e⟩) (br_t rfl p))
    refine br_c (fun z => br_c (fun z2 => H (fun _ => (nI_eq (b := 0) hm1 (by decide)).mp z2)) (fun _ => p)) (fun z => H (fun e => absurd (by rw [e]; rfl) z))
  · exact sx_reg_f hr (br_t rfl p)
theorem sx_make_ok {post : Int32 → SX → Prop} {xP xD xC : Int32} {xrk xrw xcl xfm xnm xk xa xcp xfi xse xsp xin xva : Nat → Int32} {r n m j : Nat} (hr : r < 6) (hn : n ≤ 6) (hm : m ≤ 6) (hz : n = 0 → m = 0) (hj : j ≤ sf_fm (sf_rk n m)) (h : ∀ A, sf_blk (36 * r) 36 (fun _ => 0) xnm A → post (nI (sf_rk n m)) (xP, xD, xC, upd xrk r (nI (sf_rk n m)), upd xrw r (nI (if n = 0 then 1 else n)), upd xcl r (nI (if m = 0 then 1 else m)), upd xfm r (nI j), A, xk, xa, xcp, xfi, xse, xsp, xin, xva)) : wpX_make post (xP, xD, xC, xrk, xrw, xcl, xfm, xnm, xk, xa, xcp, xfi, xse, xsp, xin, xva) (nI r) (nI n) (nI m) (nI j) := by
  have H : wX_make_38 post (nI r) (nI n) (nI m) (nI j) xP xD xC xrk xrw xcl xfm xnm xk xa xcp xfi xse xsp xin xva := by
    refine sx_make38 hn hm (sx_fmt_t (sf_rk_le n m) hj (br_f (by decide) ?_))
    have H2 : ∀ a : Nat, (∀ A, sf_blk (36 * r) 36 (fun _ => 0) xnm A → post (nI (sf_rk n m)) (xP, xD, xC, upd xrk r (nI (sf_rk n m)), upd xrw r (nI a), upd xcl r (nI (if m = 0 then 1 else m)), upd xfm r (nI j), A, xk, xa, xcp, xfi, xse, xsp, xin, xva)) → wX_make_79 post (nI r) (nI m) (nI j) (nI (sf_rk n m)) (nI a) xP xD xC xrk xrw xcl xfm xnm xk xa xcp xfi xse xsp xin xva := by
      intro a h
      by_cases z : m = 0
      · subst z
        rw [if_pos rfl] at h
        exact br_t rfl (sx_shape hr _ _ _ _ h)
      · rw [if_neg z] at h
        exact br_f (nI_ne0 (by omega) (by omega)) (sx_shape hr _ _ _ _ h)
    by_cases z : n = 0
    · rw [if_pos z] at h
      exact br_t (by rw [z]; rfl) (H2 1 h)
    · rw [if_neg z] at h
      exact br_f (nI_ne0 (by omega) (by omega)) (H2 n h)
  unfold wpX_make
  dsimp only
  refine sx_reg_t hr (br_f (by decide) (br_f (nI_pos (by omega)) (br_f (nI_nlt (a := 6) hn (by decide)) (br_f (nI_pos (by omega)) (br_f (nI_nlt (a := 6) hm (by decide)) ?_)))))
  by_cases z : n = 0
  · exact br_t (by rw [z]; rfl) (br_t (by rw [hz z]; rfl) H)
  · exact br_f (nI_ne0 (by omega) (by omega)) H
theorem sy_make40 {post : Int32 → SY → Prop} {yP yA yD : Int32} {yrk yrw ywi yfm yce ykd ynu ysz yva yfi yse yat ysp : Nat → Int32} {v1 v2 v3 v4 : Int32} (p : post (-1000000001) (yP, yA, yD, yrk, yrw, ywi, yfm, yce, ykd, ynu, ysz, yva, yfi, yse, yat, ysp)) : wY_make_40 post v1 v2 v3 v4 yP yA yD yrk yrw ywi yfm yce ykd ynu ysz yva yfi yse yat ysp :=
  br_c (fun _ => br_t rfl p) (fun _ => br_c (fun _ => br_t rfl p) (fun _ => br_t rfl p))
theorem sy_make41 {post : Int32 → SY → Prop} {yP yA yD : Int32} {yrk yrw ywi yfm yce ykd ynu ysz yva yfi yse yat ysp : Nat → Int32} {x1 x4 z : Int32} {n m : Nat} (hn : n ≤ 6) (hm : m ≤ 6) (h : wY_make_60 post x1 (nI n) (nI m) x4 z (nI (sf_rk n m)) yP yA yD yrk yrw ywi yfm yce ykd ynu ysz yva yfi yse yat ysp) : wY_make_41 post x1 (nI n) (nI m) x4 z yP yA yD yrk yrw ywi yfm yce ykd ynu ysz yva yfi yse yat ysp := by
  unfold sf_rk at h
  by_cases z : n = 0
  · subst z
    rw [if_pos rfl] at h
    exact br_t rfl h
  · have z' : ¬ nI n = 0 := nI_ne0 (by omega) (by omega)
    rw [if_neg z] at h
    by_cases z2 : m = 0
    · subst z2
      rw [if_pos rfl] at h
      exact br_f z' (br_t rfl h)
    · rw [if_neg z2] at h
      exact br_f z' (br_f (nI_ne0 (by omega) (by omega)) h)
theorem sy_make_bad {post : Int32 → SY → Prop} {yP yA yD : Int32} {yrk yrw ywi yfm yce ykd ynu ysz yva yfi yse yat ysp : Nat → Int32} {v1 v2 v3 v4 : Int32} (hn : ¬ sf_mok v1 v2 v3 v4) (q : post (-1000000001) (yP, yA, yD, yrk, yrw, ywi, yfm, yce, ykd, ynu, ysz, yva, yfi, yse, yat, ysp)) : wpY_make post (yP, yA, yD, yrk, yrw, ywi, yfm, yce, ykd, ynu, ysz, yva, yfi, yse, yat, ysp) v1 v2 v3 v4 := by
  have p : wY_make_40 post v1 v2 v3 v4 yP yA yD yrk yrw ywi yfm yce ykd ynu ysz yva yfi yse yat ysp := sy_make40 q
  unfold wpY_make
  dsimp only
  by_cases hr : sf_rg v1
  · obtain ⟨r, hr, rfl⟩ := hr
    refine sy_reg_t hr (br_f (by decide) (br_c (fun _ => p) (fun h1 => br_c (fun _ => p) (fun h2 => br_c (fun _ => p) (fun h3 => br_c (fun _ => p) (fun h4 => ?_))))))
    obtain ⟨n, hn1, rfl⟩ := nI_of h1
    obtain ⟨m, hm1, rfl⟩ := nI_of h3
    have hn6 : n ≤ 6 := Nat.not_lt.mp (fun z => h2 (nI_lt (a := 6) z hn1))
    have hm6 : m ≤ 6 := Nat.not_lt.mp (fun z => h4 (nI_lt (a := 6) z hm1))
    have H : (n = 0 → m = 0) → wY_make_36 post (nI r) (nI n) (nI m) v4 yP yA yD yrk yrw ywi yfm yce ykd ynu ysz yva yfi yse yat ysp := fun hz =>
      sy_make41 hn6 hm6 (br_f (by decide) (sy_fmt_f (sf_rk_le n m) (fun ⟨j, hj, e⟩ => hn ⟨r, n, m, j, hr, hn6, hm6, hz, hj, rfl, rfl, rfl, e⟩) (br_t rfl q)))
    refine br_c (fun z => H (fun e => ?_)) (fun z => br_c (fun z2 => H (fun _ => (nI_eq (b := 0) hm1 (by decide)).mp z2)) (fun _ => p))
    rw [e] at z
    exact absurd z (by decide)
  · exact sy_reg_f hr (br_t rfl p)
theorem sf_ifn {n : Nat} (hn : n ≤ 6) : (if nI n = 0 then (1 : Int32) else nI n) = nI (if n = 0 then 1 else n) := by
  by_cases z : n = 0
  · rw [if_pos z, if_pos (by rw [z]; rfl)]; rfl
  · rw [if_neg z, if_neg (nI_ne0 (by omega) (by omega))]
theorem sf_ifr {n m : Nat} (hn : n ≤ 6) (hm : m ≤ 6) : (if nI n = 0 then (0 : Int32) else if nI m = 0 then 1 else 2) = nI (sf_rk n m) := by
  unfold sf_rk
  by_cases z : n = 0
  · rw [if_pos z, if_pos (by rw [z]; rfl)]; rfl
  · rw [if_neg z, if_neg (nI_ne0 (by omega) (by omega))]
    by_cases z2 : m = 0
    · rw [if_pos z2, if_pos (by rw [z2]; rfl)]; rfl
    · rw [if_neg z2, if_neg (nI_ne0 (by omega) (by omega))]; rfl
/-- the reference's shape, in numbers -/
theorem sy_shapeN {post : SY → Prop} {yP yA yD : Int32} {yrk yrw ywi yfm yce ykd ynu ysz yva yfi yse yat ysp : Nat → Int32} {r n m : Nat} {f : Int32} (hr : r < 13) (hn : n ≤ 6) (hm : m ≤ 6) (h : ∀ A, sf_blk (36 * r) 36 (fun _ => 0) yce A → post (yP, yA, yD, upd yrk r (nI (sf_rk n m)), upd yrw r (nI (if n = 0 then 1 else n)), upd ywi r (nI (if m = 0 then 1 else m)), upd yfm r f, A, ykd, ynu, ysz, yva, yfi, yse, yat, ysp)) : wpY_shape post (yP, yA, yD, yrk, yrw, ywi, yfm, yce, ykd, ynu, ysz, yva, yfi, yse, yat, ysp) (nI r) (nI n) (nI m) f := by
  apply sy_shape hr
  rw [sf_ifn hn, sf_ifn hm, sf_ifr hn hm]
  exact h
theorem sy_make_ok {post : Int32 → SY → Prop} {yP yA yD : Int32} {yrk yrw ywi yfm yce ykd ynu ysz yva yfi yse yat ysp : Nat → Int32} {r n m j : Nat} (hr : r < 6) (hn : n ≤ 6) (hm : m ≤ 6) (hz : n = 0 → m = 0) (hj : j ≤ sf_fm (sf_rk n m)) (h : ∀ A, sf_blk (36 * r) 36 (fun _ => 0) yce A → post (nI (sf_rk n m)) (yP, yA, yD, upd yrk r (nI (sf_rk n m)), upd yrw r (nI (if n = 0 then 1 else n)), upd ywi r (nI (if m = 0 then 1 else m)), upd yfm r (nI j), A, ykd, ynu, ysz, yva, yfi, yse, yat, ysp)) : wpY_make post (yP, yA, yD, yrk, yrw, ywi, yfm, yce, ykd, ynu, ysz, yva, yfi, yse, yat, ysp) (nI r) (nI n) (nI m) (nI j) := by
  have H : wY_make_36 post (nI r) (nI n) (nI m) (nI j) yP yA yD yrk yrw ywi yfm yce ykd ynu ysz yva yfi yse yat ysp :=
    sy_make41 hn hm (br_f (by decide) (sy_fmt_t (sf_rk_le n m) hj (br_f (by decide) (sy_shapeN (by omega) hn hm h))))
  unfold wpY_make
  dsimp only
  refine sy_reg_t hr (br_f (by decide) (br_f (nI_pos (by omega)) (br_f (nI_nlt (a := 6) hn (by decide)) (br_f (nI_pos (by omega)) (br_f (nI_nlt (a := 6) hm (by decide)) ?_)))))
  by_cases z : n = 0
  · exact br_f (by rw [z]; decide) (br_t (by rw [hz z]; rfl) H)
  · exact br_t (nI_lt (a := 0) (by omega) (by omega)) H
theorem sf_Sh_mk {n m j : Nat} (hn : n ≤ 6) (hm : m ≤ 6) (hz : n = 0 → m = 0) (hj : j ≤ sf_fm (sf_rk n m)) : sf_Sh (sf_rk n m) (if n = 0 then 1 else n) (if m = 0 then 1 else m) j := by
  unfold sf_rk at hj
  unfold sf_Sh sf_rk
  by_cases z : n = 0
  · rw [if_pos z] at hj
    have hj' : j ≤ 0 := hj
    rw [if_pos z, if_pos z, if_pos (hz z)]
    omega
  · rw [if_neg z] at hj
    rw [if_neg z, if_neg z]
    by_cases z2 : m = 0
    · rw [if_pos z2] at hj
      have hj' : j ≤ 1 := hj
      rw [if_pos z2, if_pos z2]
      omega
    · rw [if_neg z2] at hj
      have hj' : j ≤ 7 := hj
      rw [if_neg z2, if_neg z2]
      omega
theorem sf_Form_shape {n c d r : Nat} (hr : r < 6) {xk xa xcp xfi xse xsp yce ykd ynu ysz yfi yse yrw ywi yce' : Nat → Int32} {a b : Int32} (F : sf_Form n c d xk xa xcp xfi xse xsp yce ykd ynu ysz yfi yse yrw ywi) {g : Nat → Int32} (h : sf_blk (36 * r) 36 g yce yce') : sf_Form n c d xk xa xcp xfi xse xsp yce' ykd ynu ysz yfi yse (upd yrw r a) (upd ywi r b) :=
  sf_Form_cg F (fun k h1 _ => h.2 k (by omega)) (fun s h1 _ => pk_un (by omega)) (fun s h1 _ => pk_un (by omega))
theorem i_vc_make {k : Nat} {u : SX} {v : SY} (I : i_Rel k u v) (hk : k + 5 ≤ 2560) (v1 : Int32) (v2 : Int32) (v3 : Int32) (v4 : Int32) : wpX_make (fun r u' => wpY_make (fun r' v' => r' = r ∧ i_Rel (k + 5) u' v') v v1 v2 v3 v4) u v1 v2 v3 v4 := by
  obtain ⟨xP, xD, xC, xrk, xrw, xcl, xfm, xnm, xk, xa, xcp, xfi, xse, xsp, xin, xva⟩ := u
  obtain ⟨yP, yA, yD, yrk, yrw, ywi, yfm, yce, ykd, ynu, ysz, yva, yfi, yse, yat, ysp⟩ := v
  have I0 := I
  obtain ⟨n, c, d, ⟨rfl, rfl, rfl, rfl, rfl, rfl⟩, G, F⟩ := I
  by_cases hm : sf_mok v1 v2 v3 v4
  · obtain ⟨r, n', m, j, hr, hn, hm, hz, hj, rfl, rfl, rfl, rfl⟩ := hm
    exact sx_make_ok hr hn hm hz hj (fun A hA => sy_make_ok hr hn hm hz hj (fun B hB => ⟨rfl, sf_mk (sf_Regs_shape hr G (sf_Sh_mk hn hm hz hj) hA hB) (sf_Form_shape hr F hB)⟩))
  · exact sx_make_bad hm (sy_make_bad hm ⟨rfl, I0⟩)
