theorem sy_note_n {post : SY → Prop} {yP yA yD : Int32} {yrk yrw ywi yfm yce ykd ynu ysz yva yfi yse yat ysp : Nat → Int32} {x : Int32} (P : post (yP, yA, yD, yrk, yrw, ywi, yfm, yce, ykd, ynu, ysz, yva, yfi, yse, yat, ysp)) : wpY_noteSpan post (yP, yA, yD, yrk, yrw, ywi, yfm, yce, ykd, ynu, ysz, yva, yfi, yse, yat, ysp) (-1) x := br_t (by decide) P
theorem sy_note_p {post : SY → Prop} {yP yA yD : Int32} {yrk yrw ywi yfm yce ykd ynu ysz yva yfi yse yat ysp : Nat → Int32} {p : Nat} {x : Int32} (hp : p < 3) (hx : ¬ x = 0) (P : post (yP, yA, yD, yrk, yrw, ywi, yfm, yce, ykd, ynu, ysz, yva, yfi, yse, yat, upd ysp p (sf_cs (ysp p) x))) : wpY_noteSpan post (yP, yA, yD, yrk, yrw, ywi, yfm, yce, ykd, ynu, ysz, yva, yfi, yse, yat, ysp) (nI p) x := by
  have hv : vp_in (nI p) 3 := vp_in_nI hp (by decide)
  have ec : (nI p).toNatClampNeg = p := nI_clamp (by omega)
  unfold wpY_noteSpan
  dsimp only
  rw [ec]
  unfold sf_cs at P
  refine br_f (nI_pos (by omega)) ⟨hv, br_c (fun z => ⟨hv, nm_e ?_⟩) (fun z => ⟨hv, br_c (fun z2 => ⟨hv, nm_e ?_⟩) (fun z2 => ⟨hv, nm_e ?_⟩)⟩)⟩
  · rw [if_pos (Or.inl z)] at P; exact P
  · rw [if_pos (Or.inr z2)] at P; exact P
  · rw [if_neg (fun y => y.elim z z2), if_neg hx] at P; exact P
theorem sf_ln_ne {x : Int32} (h : sf_ln x) : ¬ x = 0 := by
  obtain ⟨k, h1, h2, rfl⟩ := h
  exact nI_ne0 (by omega) (by omega)
/-- two notes -/
theorem sy_notes {post : SY → Prop} {yP yA yD : Int32} {yrk yrw ywi yfm yce ykd ynu ysz yva yfi yse yat ysp : Nat → Int32} {fi se ro wi : Int32} (hf : sf_id fi) (hs : sf_id se) (hne : fi = se → fi = -1) (hro : sf_ln ro) (hwi : sf_ln wi) (Q : SY → Prop) (hQ : ∀ B, wpY_noteSpan post (yP, yA, yD, yrk, yrw, ywi, yfm, yce, ykd, ynu, ysz, yva, yfi, yse, yat, B) se wi → Q (yP, yA, yD, yrk, yrw, ywi, yfm, yce, ykd, ynu, ysz, yva, yfi, yse, yat, B)) (P : ∀ B, (∀ p, p < 3 → B p = sf_cs (ysp p) (if fi = nI p then ro else if se = nI p then wi else 0)) → post (yP, yA, yD, yrk, yrw, ywi, yfm, yce, ykd, ynu, ysz, yva, yfi, yse, yat, B)) : wpY_noteSpan Q (yP, yA, yD, yrk, yrw, ywi, yfm, yce, ykd, ynu, ysz, yva, yfi, yse, yat, ysp) fi ro := by
  have r0 := sf_ln_ne hro
  have w0 := sf_ln_ne hwi
  rcases hf with rfl | ⟨a, ha, rfl⟩
  · refine sy_note_n (hQ ysp ?_)
    rcases hs with rfl | ⟨b, hb, rfl⟩
    · refine sy_note_n (P ysp (fun p hp => ?_))
      rw [if_neg (fun y => sf_m1n hp y.symm), if_neg (fun y => sf_m1n hp y.symm), sf_cs_0r]
    · refine sy_note_p hb w0 (P _ (fun p hp => ?_))
      rw [if_neg (fun y => sf_m1n hp y.symm)]
      by_cases z : p = b
      · rw [z, pk_us, if_pos rfl]
      · rw [pk_un z, if_neg (fun y => z ((nI_eq (by omega) (by omega)).mp y).symm), sf_cs_0r]
  · refine sy_note_p ha r0 (hQ _ ?_)
    rcases hs with rfl | ⟨b, hb, rfl⟩
    · refine sy_note_n (P _ (fun p hp => ?_))
      by_cases z : p = a
      · rw [z, pk_us, if_pos rfl]
      · rw [pk_un z, if_neg (fun y => z ((nI_eq (by omega) (by omega)).mp y).symm), if_neg (fun y => sf_m1n hp y.symm), sf_cs_0r]
    · have hab : a ≠ b := fun y => sf_m1n ha (hne (by rw [y]))
      refine sy_note_p hb w0 (P _ (fun p hp => ?_))
      by_cases z : p = b
      · rw [z, pk_us, pk_un (fun y => hab y.symm), if_neg (fun y => hab ((nI_eq (by omega) (by omega)).mp y)), if_pos rfl]
      · rw [pk_un z]
        by_cases z2 : p = a
        · rw [z2, pk_us, if_pos rfl]
        · rw [pk_un z2, if_neg (fun y => z2 ((nI_eq (by omega) (by omega)).mp y).symm), if_neg (fun y => z ((nI_eq (by omega) (by omega)).mp y).symm), sf_cs_0r]
theorem sy_find50 {post : SY → Prop} {yA yD : Int32} {yrk yrw ywi yfm yce ykd ynu ysz yva yfi yse yat : Nat → Int32} {n c lo : Nat} {xk xa xcp xfi xse A : Nat → Int32} (hn : n ≤ 20) (hc : c ≤ 6) (hl : lo ≤ n) (hp : ∀ i, i < n → sf_Pt c xk xa ykd ynu ysz i) (hs : sf_Cps c xcp xfi xse yce yfi yse yrw ywi) (hA : ∀ p, p < 3 → A p = 0) (P : ∀ B, (∀ p, p < 3 → B p = sf_fs (sf_cb ykd ynu yfi yse yrw ywi p) lo (n - lo)) → post (nI n, yA, yD, yrk, yrw, ywi, yfm, yce, ykd, ynu, ysz, yva, yfi, yse, yat, B)) : ∃ m, wY_findSpans_50 post m (nI lo) (nI n) yA yD yrk yrw ywi yfm yce ykd ynu ysz yva yfi yse yat A := by
  refine pk_loop (fun m i (B : Nat → Int32) => wY_findSpans_50 post m (nI i) (nI n) yA yD yrk yrw ywi yfm yce ykd ynu ysz yva yfi yse yat B) (fun i B => lo ≤ i ∧ ∀ p, p < 3 → B p = sf_fs (sf_cb ykd ynu yfi yse yrw ywi p) lo (i - lo)) n lo A hl ⟨Nat.le_refl lo, fun p hp => by rw [Nat.sub_self]; exact hA p hp⟩ (fun m B hB => br_t (nI_le (by omega) (by omega)) (P B hB.2)) (fun m i B hi hB k => br_f (nI_ge hi (by omega)) ?_)
  obtain ⟨hli, hB⟩ := hB
  have vi : vp_in (nI i) 20 := vp_in_nI (by omega) (by decide)
  have ci : (nI i).toNatClampNeg = i := nI_clamp (by omega)
  have step : ∀ p, sf_fs (sf_cb ykd ynu yfi yse yrw ywi p) lo (i + 1 - lo) = sf_cs (sf_fs (sf_cb ykd ynu yfi yse yrw ywi p) lo (i - lo)) (sf_cb ykd ynu yfi yse yrw ywi p i) := by
    intro p
    rw [show i + 1 - lo = (i - lo) + 1 by omega, sf_fs_s, show lo + (i - lo) = i by omega]
  rw [ci]
  refine ⟨vi, br_c (fun z => ?_) (fun z => nm_r (nI_1 i) (k B ⟨by omega, fun p hp => ?_⟩))⟩
  · obtain ⟨_, a, ha, _, e2⟩ := sf_Pt_a (hp i hi) z
    obtain ⟨b1, b2, b3, b4, b5, b6, b7, b8⟩ := hs a ha
    have e3 : (nI (6 + a)).toNatClampNeg = 6 + a := nI_clamp (by omega)
    have va : vp_in (nI (6 + a)) 13 := vp_in_nI (by omega) (by decide)
    rw [e2, e3]
    refine ⟨vi, va, vi, va, ?_⟩
    refine sy_notes (post := fun u => ∀ x : Int32, x = nI i + 1 → wY_findSpans_50 post m x u.1 u.2.1 u.2.2.1 u.2.2.2.1 u.2.2.2.2.1 u.2.2.2.2.2.1 u.2.2.2.2.2.2.1 u.2.2.2.2.2.2.2.1 u.2.2.2.2.2.2.2.2.1 u.2.2.2.2.2.2.2.2.2.1 u.2.2.2.2.2.2.2.2.2.2.1 u.2.2.2.2.2.2.2.2.2.2.2.1 u.2.2.2.2.2.2.2.2.2.2.2.2.1 u.2.2.2.2.2.2.2.2.2.2.2.2.2.1 u.2.2.2.2.2.2.2.2.2.2.2.2.2.2.1 u.2.2.2.2.2.2.2.2.2.2.2.2.2.2.2) b4 b5 b6 b7 b8 _ (fun C hC => ?_) (fun C hC => nm_r (nI_1 i) (k C ⟨by omega, fun p hp => ?_⟩))
    · dsimp only
      rw [e2, e3]
      exact ⟨vi, va, vi, va, hC⟩
    · rw [hC p hp, step, hB p hp]
      unfold sf_cb
      rw [if_pos z, e2, e3]
  · rw [hB p hp, step, sf_cb_no z, sf_cs_0r]
