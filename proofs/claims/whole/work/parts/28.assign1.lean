def sf_l (s : Nat) : Nat := if s = 0 then 1 else s
theorem sf_l_in {s : Nat} (h : s ≤ 6) : 1 ≤ sf_l s ∧ sf_l s ≤ 6 := by
  unfold sf_l
  split <;> omega
theorem sf_l_ne {s : Nat} (h : s ≠ 0) : sf_l s = s := if_neg h
theorem sf_l_step {Q : Int32 → Prop} {x : Int32} {s : Nat} (e : x = nI s) (hs : s ≤ 6) (h : Q (nI (sf_l s))) : (x = 0 → Q 1) ∧ (¬ x = 0 → Q x) := by
  subst e
  by_cases z : s = 0
  · subst z
    exact br_t rfl h
  · rw [sf_l_ne z] at h
    exact br_f (nI_ne0 (by omega) (by omega)) h
theorem sf_l_stepE {Q : Int32 → Prop} {x : Int32} {s : Nat} (e : x = nI s) (hs : s ≤ 6) (h : Q (nI (sf_l s))) : (x = 0 → Q 1) ∧ (¬ x = 0 → ∀ y, y = x → Q y) := by
  subst e
  by_cases z : s = 0
  · subst z
    exact br_t rfl h
  · rw [sf_l_ne z] at h
    exact br_f (nI_ne0 (by omega) (by omega)) (nm_e h)
theorem sf_nms {xsp : Nat → Int32} {e s : Nat} (h : ¬ sf_ms xsp (nI e)) (he : e < 3) (hs : xsp e = nI s) : s ≠ 0 := by
  intro z
  apply h
  refine ⟨e, he, rfl, ?_⟩
  rw [hs, z]
  rfl
theorem sx_hg {Q : Int32 → Prop} {xsp : Nat → Int32} {sp : Nat → Nat} {p : Int32} (hp : sf_id p) (hsp : ∀ t, t < 3 → xsp t = nI (sp t)) (np : ¬ sf_ms xsp p) (h : Q (nI (sf_l (sf_at p sp)))) : (p = -1 → Q 1) ∧ (¬ p = -1 → vp_in p 18 ∧ Q (xsp p.toNatClampNeg)) := by
  rcases hp with rfl | ⟨e, he, rfl⟩
  · rw [sf_at_n] at h
    exact br_t rfl h
  · rw [sf_at_p sp he, sf_l_ne (sf_nms np he (hsp e he))] at h
    refine br_f (sf_m1n he) ⟨vp_in_nI (by omega) (by decide), ?_⟩
    rw [nI_clamp (by omega), hsp e he]
    exact h
theorem sy_hg {Q : Int32 → Prop} {ysp : Nat → Int32} {sp : Nat → Nat} {p : Int32} (hp : sf_id p) (hsp : ∀ t, t < 3 → ysp t = nI (sp t)) (h : Q (nI (sf_at p sp))) : (0 ≤ p → vp_in p 3 ∧ Q (ysp p.toNatClampNeg)) ∧ (¬ 0 ≤ p → Q 0) := by
  rcases sf_ge0 hp with ⟨rfl, z⟩ | ⟨e, he, rfl, z⟩
  · rw [sf_at_n] at h
    exact br_f z h
  · rw [sf_at_p sp he] at h
    refine br_t z ⟨vp_in_nI he (by decide), ?_⟩
    rw [nI_clamp (by omega), hsp e he]
    exact h
theorem sf_hw {k : Nat} {p q : Int32} {xsp : Nat → Int32} {sp : Nat → Nat} (hsp : ∀ t, t < 3 → xsp t = nI (sp t)) (h6 : ∀ t, t < 3 → sp t ≤ 6) (ix : sf_ix k p q) (np : ¬ sf_ms xsp p) (nq : ¬ sf_ms xsp q) : sf_at p sp ≤ 6 ∧ sf_at q sp ≤ 6 ∧ (sf_at p sp = 0 → sf_at q sp = 0) ∧ sf_rk (sf_at p sp) (sf_at q sp) = k := by
  rcases ix with ⟨rfl, rfl, rfl⟩ | ⟨rfl, ⟨a, ha, rfl⟩, rfl⟩ | ⟨rfl, a, b, ha, hb, hab, rfl, rfl⟩
  · rw [sf_at_n]
    exact ⟨by omega, by omega, fun e => e, rfl⟩
  · have z := sf_nms np ha (hsp a ha)
    have := h6 a ha
    rw [sf_at_n, sf_at_p sp ha]
    refine ⟨this, by omega, fun _ => rfl, ?_⟩
    unfold sf_rk
    rw [if_neg z, if_pos rfl]
  · have z := sf_nms np ha (hsp a ha)
    have z2 := sf_nms nq hb (hsp b hb)
    have := h6 a ha
    have := h6 b hb
    rw [sf_at_p sp ha, sf_at_p sp hb]
    refine ⟨by omega, by omega, fun y => absurd y z, ?_⟩
    unfold sf_rk
    rw [if_neg z, if_neg z2]
theorem sf_hpl {p : Int32} {xsp : Nat → Int32} {sp tt : Nat → Nat} (hp : sf_id p) (hsp : ∀ t, t < 3 → xsp t = nI (sp t)) (np : ¬ sf_ms xsp p) (ht : ∀ t, t < 3 → tt t < sf_l (sp t)) : sf_at p tt < sf_l (sf_at p sp) := by
  rcases hp with rfl | ⟨e, he, rfl⟩
  · rw [sf_at_n, sf_at_n]
    exact Nat.one_pos
  · rw [sf_at_p tt he, sf_at_p sp he]
    exact ht e he
theorem sf_nm1 {s : Nat} (h : s ≤ 6) : ¬ nI s = -1 := by
  have H : ∀ s, s < 7 → ¬ nI s = -1 := by decide
  exact H s (by omega)
theorem sx_addUp {post : SX → Prop} {xP xD xC : Int32} {xrk xrw xcl xfm xnm xk xa xcp xfi xse xsp xin xva : Nat → Int32} {sp : Nat → Nat} {to : Nat} {p q : Int32} (hsp : ∀ t, t < 3 → xsp t = nI (sp t)) (h6 : ∀ t, t < 3 → sp t ≤ 6) (h : ∃ m, wX_addUpFormula_66 post (nI to) p q (nI (sf_l (sp 0))) (nI (sf_l (sp 1))) (nI (sf_l (sp 2))) m 0 xP xD xC xrk xrw xcl xfm xnm xk xa xcp xfi xse xsp xin xva) : wpX_addUpFormula post (xP, xD, xC, xrk, xrw, xcl, xfm, xnm, xk, xa, xcp, xfi, xse, xsp, xin, xva) (nI to) p q := by
  refine sf_l_step (Q := fun z => wX_addUpFormula_19 post (nI to) p q z xP xD xC xrk xrw xcl xfm xnm xk xa xcp xfi xse xsp xin xva) (hsp 0 (by omega)) (h6 0 (by omega)) ?_
  refine sf_l_step (Q := fun z => wX_addUpFormula_40 post (nI to) p q (nI (sf_l (sp 0))) z xP xD xC xrk xrw xcl xfm xnm xk xa xcp xfi xse xsp xin xva) (hsp 1 (by omega)) (h6 1 (by omega)) ?_
  exact sf_l_stepE (Q := fun z => ∃ m, wX_addUpFormula_66 post (nI to) p q (nI (sf_l (sp 0))) (nI (sf_l (sp 1))) z m 0 xP xD xC xrk xrw xcl xfm xnm xk xa xcp xfi xse xsp xin xva) (hsp 2 (by omega)) (h6 2 (by omega)) h
/-- the component's assign, once it has passed its checks -/
theorem sx_as_ok {post : Int32 → SX → Prop} {xD xC : Int32} {xrk xrw xcl xfm xnm xk xa xcp xfi xse xsp xin xva : Nat → Int32} {n c to k j : Nat} {p q : Int32} {sp : Nat → Nat} {yce ykd ynu ysz yfi yse yrw ywi : Nat → Int32} (hn : n ≤ 20) (hc : c ≤ 6) (hp : ∀ i, i < n → sf_Pt c xk xa ykd ynu ysz i) (hs : sf_Cps c xcp xfi xse yce yfi yse yrw ywi) (hH : sf_H ykd n = 1) (hto : to < 6) (ix : sf_ix k p q) (hsp : ∀ t, t < 3 → xsp t = nI (sp t)) (h6 : ∀ t, t < 3 → sp t ≤ 6) (np : ¬ sf_ms xsp p) (nq : ¬ sf_ms xsp q) (hag : ∀ i, i < 216 → xnm i = yce i)
    (K : ∀ A xin xva, (∀ i, i < 216 → A i = sf_C ykd ynu ysz xa xcp xfi xse (sf_y0 to yce) n to (sf_l (sp 1)) (sf_l (sp 2)) p q (sf_l (sp 0) * sf_l (sp 1) * sf_l (sp 2)) i) → wpX_countRoom (fun r => post r (0, 0, 0, upd xrk to (nI k), upd xrw to (nI (sf_l (sf_at p sp))), upd xcl to (nI (sf_l (sf_at q sp))), upd xfm to (nI j), A, xk, xa, xcp, xfi, xse, xsp, xin, xva)) (0, 0, 0, upd xrk to (nI k), upd xrw to (nI (sf_l (sf_at p sp))), upd xcl to (nI (sf_l (sf_at q sp))), upd xfm to (nI j), A, xk, xa, xcp, xfi, xse, xsp, xin, xva) (nI to)) :
    wX_assign_93 post (nI to) p q (nI j) (nI k) (nI n) xD xC xrk xrw xcl xfm xnm xk xa xcp xfi xse xsp xin xva := by
  obtain ⟨hid1, hid2, _⟩ := sf_ix_id ix
  have l0 := sf_l_in (h6 0 (by omega))
  have l1 := sf_l_in (h6 1 (by omega))
  have l2 := sf_l_in (h6 2 (by omega))
  have Q158 : wX_assign_158 post (nI to) p q (nI j) (nI k) (nI (sf_l (sf_at p sp))) (nI (sf_l (sf_at q sp))) (nI n) xD xC xrk xrw xcl xfm xnm xk xa xcp xfi xse xsp xin xva := by
    refine sx_shape hto _ _ _ _ (fun A hA => ?_)
    dsimp only
    refine sx_addUp hsp h6 (sx_add66 (y0 := sf_y0 to yce) hn hc hp hs hH hto hid1 hid2 l0.2 l1.2 l2.2 (sf_blk_eq hA (sf_y0_blk to yce) hag) (fun A' xin' xva' hA' => ?_))
    exact K A' xin' xva' hA'
  refine br_f ?_ (br_f ?_ (br_f ?_ ?_))
  · rw [hsp 0 (by omega)]; exact sf_nm1 (h6 0 (by omega))
  · rw [hsp 1 (by omega)]; exact sf_nm1 (h6 1 (by omega))
  · rw [hsp 2 (by omega)]; exact sf_nm1 (h6 2 (by omega))
  · refine sx_hg (Q := fun z => wX_assign_141 post (nI to) p q (nI j) (nI k) z (nI n) xD xC xrk xrw xcl xfm xnm xk xa xcp xfi xse xsp xin xva) hid1 hsp np ?_
    exact sx_hg (Q := fun z => wX_assign_158 post (nI to) p q (nI j) (nI k) (nI (sf_l (sf_at p sp))) z (nI n) xD xC xrk xrw xcl xfm xnm xk xa xcp xfi xse xsp xin xva) hid2 hsp nq Q158
