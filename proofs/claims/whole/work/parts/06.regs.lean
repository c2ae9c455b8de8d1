theorem sf_Regs_upd {r : Nat} (hr : r < 6) {xrk xrw xcl xfm xnm yrk yrw ywi yfm yce xrk' xrw' xcl' xfm' xnm' yrk' yrw' ywi' yfm' yce' : Nat → Int32} (H : sf_Regs xrk xrw xcl xfm xnm yrk yrw ywi yfm yce)
    (e : ∀ s, s < 6 → s ≠ r → xrk' s = xrk s ∧ xrw' s = xrw s ∧ xcl' s = xcl s ∧ xfm' s = xfm s ∧ yrk' s = yrk s ∧ yrw' s = yrw s ∧ ywi' s = ywi s ∧ yfm' s = yfm s)
    (en : ∀ k, k < 216 → xnm' k = yce' k) (eo : ∀ k, k < 216 → (k < 36 * r ∨ 36 * r + 36 ≤ k) → yce' k = yce k)
    (k h w f : Nat) (q : xrk' r = nI k ∧ xrw' r = nI h ∧ xcl' r = nI w ∧ xfm' r = nI f ∧ yrk' r = nI k ∧ yrw' r = nI h ∧ ywi' r = nI w ∧ yfm' r = nI f) (S : sf_Sh k h w f) (O : sf_Out h w (fun i => yce' (36 * r + i))) :
    sf_Regs xrk' xrw' xcl' xfm' xnm' yrk' yrw' ywi' yfm' yce' := by
  obtain ⟨H1, H2, H3⟩ := H
  refine ⟨fun s hs => ?_, en, fun s hs => ?_⟩
  · by_cases z : s = r
    · subst z
      obtain ⟨q1, q2, q3, q4, q5, q6, q7, q8⟩ := q
      rw [q1, q2, q3, q4, q5, q6, q7, q8]
      exact ⟨rfl, rfl, rfl, rfl⟩
    · obtain ⟨q1, q2, q3, q4, q5, q6, q7, q8⟩ := e s hs z
      rw [q1, q2, q3, q4, q5, q6, q7, q8]
      exact H1 s hs
  · by_cases z : s = r
    · subst z
      obtain ⟨q1, q2, q3, q4, q5, q6, q7, q8⟩ := q
      exact ⟨k, h, w, f, q5, q6, q7, q8, S, O⟩
    · obtain ⟨q1, q2, q3, q4, q5, q6, q7, q8⟩ := e s hs z
      obtain ⟨k', h', w', f', p1, p2, p3, p4, p5, p6⟩ := H3 s hs
      refine ⟨k', h', w', f', by rw [q5, p1], by rw [q6, p2], by rw [q7, p3], by rw [q8, p4], p5, fun i j hi hj hz => ?_⟩
      have := p6 i j hi hj hz
      show yce' (36 * s + (6 * i + j)) = 0
      rw [eo _ (by omega) (by omega)]
      exact this
theorem sf_up8 {r : Nat} {xrk xrw xcl xfm yrk yrw ywi yfm : Nat → Int32} {a b c d a' b' c' d' : Int32} (s : Nat) (h : s ≠ r) : upd xrk r a s = xrk s ∧ upd xrw r b s = xrw s ∧ upd xcl r c s = xcl s ∧ upd xfm r d s = xfm s ∧ upd yrk r a' s = yrk s ∧ upd yrw r b' s = yrw s ∧ upd ywi r c' s = ywi s ∧ upd yfm r d' s = yfm s :=
  ⟨pk_un h, pk_un h, pk_un h, pk_un h, pk_un h, pk_un h, pk_un h, pk_un h⟩
theorem sf_blk_eq {r : Nat} {g N A N' A' : Nat → Int32} (h : sf_blk (36 * r) 36 g N A) (h' : sf_blk (36 * r) 36 g N' A') (e : ∀ k, k < 216 → N k = N' k) : ∀ k, k < 216 → A k = A' k := by
  intro k hk
  by_cases z : 36 * r ≤ k ∧ k < 36 * r + 36
  · obtain ⟨i, rfl⟩ : ∃ i, k = 36 * r + i := ⟨k - 36 * r, by omega⟩
    rw [h.1 i (by omega), h'.1 i (by omega)]
  · rw [h.2 k (by omega), h'.2 k (by omega), e k hk]
theorem sf_Regs_shape {r : Nat} (hr : r < 6) {xrk xrw xcl xfm xnm yrk yrw ywi yfm yce xnm' yce' : Nat → Int32} (H : sf_Regs xrk xrw xcl xfm xnm yrk yrw ywi yfm yce) {k h w f : Nat} (S : sf_Sh k h w f) (hX : sf_blk (36 * r) 36 (fun _ => 0) xnm xnm') (hY : sf_blk (36 * r) 36 (fun _ => 0) yce yce') :
    sf_Regs (upd xrk r (nI k)) (upd xrw r (nI h)) (upd xcl r (nI w)) (upd xfm r (nI f)) xnm' (upd yrk r (nI k)) (upd yrw r (nI h)) (upd ywi r (nI w)) (upd yfm r (nI f)) yce' :=
  sf_Regs_upd hr H (fun s _ z => sf_up8 s z) (sf_blk_eq hX hY H.2.1) (fun k _ hz => hY.2 k hz) k h w f ⟨pk_us, pk_us, pk_us, pk_us, pk_us, pk_us, pk_us, pk_us⟩ S (fun i j hi hj _ => hY.1 (6 * i + j) (by omega))
theorem sf_Regs_put {r : Nat} (hr : r < 6) {xrk xrw xcl xfm xnm yrk yrw ywi yfm yce : Nat → Int32} (H : sf_Regs xrk xrw xcl xfm xnm yrk yrw ywi yfm yce) {k h w f i j : Nat} (p1 : yrk r = nI k) (p2 : yrw r = nI h) (p3 : ywi r = nI w) (p4 : yfm r = nI f) (S : sf_Sh k h w f) (O : sf_Out h w (fun i => yce (36 * r + i))) (hi : i < h) (hj : j < w) (x : Int32) :
    sf_Regs xrk xrw xcl xfm (upd xnm (36 * r + 6 * i + j) x) yrk yrw ywi yfm (upd yce (36 * r + 6 * i + j) x) := by
  obtain ⟨a1, a2, a3, a4⟩ := H.1 r hr
  have b1 := H.2.1
  have S' := S
  obtain ⟨s1, s2, s3, s4, s5⟩ := S
  refine sf_Regs_upd hr H (fun s _ _ => ⟨rfl, rfl, rfl, rfl, rfl, rfl, rfl, rfl⟩) (fun k hk => ?_) (fun k _ hz => pk_un (by omega)) k h w f ⟨by rw [a1, p1], by rw [a2, p2], by rw [a3, p3], by rw [a4, p4], p1, p2, p3, p4⟩ S' (fun a b ha hb hz => ?_)
  · by_cases e : k = 36 * r + 6 * i + j
    · subst e; rw [pk_us, pk_us]
    · rw [pk_un e, pk_un e]; exact b1 k hk
  · show upd yce (36 * r + 6 * i + j) x (36 * r + (6 * a + b)) = 0
    rw [pk_un (by omega)]
    exact O a b ha hb hz
theorem sf_Regs_fmt {r : Nat} (hr : r < 6) {xrk xrw xcl xfm xnm yrk yrw ywi yfm yce : Nat → Int32} (H : sf_Regs xrk xrw xcl xfm xnm yrk yrw ywi yfm yce) {k h w f : Nat} (e0 : yrk r = nI k) (e1 : yrw r = nI h) (e2 : ywi r = nI w) (S : sf_Sh k h w f) (O : sf_Out h w (fun i => yce (36 * r + i))) :
    sf_Regs xrk xrw xcl (upd xfm r (nI f)) xnm yrk yrw ywi (upd yfm r (nI f)) yce := by
  obtain ⟨a1, a2, a3, a4⟩ := H.1 r hr
  exact sf_Regs_upd hr H (fun s _ z => ⟨rfl, rfl, rfl, pk_un z, rfl, rfl, rfl, pk_un z⟩) H.2.1 (fun _ _ _ => rfl) k h w f ⟨by rw [a1, e0], by rw [a2, e1], by rw [a3, e2], pk_us, e0, e1, e2, pk_us⟩ S O
theorem sf_Regs_turn {r : Nat} (hr : r < 6) {xrk xrw xcl xfm xnm yrk yrw ywi yfm yce xnm' yce' yrk' yrw' ywi' yfm' : Nat → Int32} (H : sf_Regs xrk xrw xcl xfm xnm yrk yrw ywi yfm yce) {h w f g : Nat} (e0 : yrk r = nI 2) (S : sf_Sh 2 h w f) (hg : g ≤ 7) (O : sf_Out h w (fun i => yce (36 * r + i)))
    (hX : ∀ a b, a < 6 → b < 6 → xnm' (36 * r + 6 * a + b) = xnm (36 * r + 6 * b + a)) (hX2 : ∀ k, (k < 36 * r ∨ 36 * r + 36 ≤ k) → xnm' k = xnm k)
    (hY : ∀ a b, a < 6 → b < 6 → yce' (36 * r + 6 * a + b) = yce (36 * r + 6 * b + a)) (hY2 : ∀ k, k < 216 → (k < 36 * r ∨ 36 * r + 36 ≤ k) → yce' k = yce k)
    (hy : ∀ s, s < 6 → yrk' s = yrk s ∧ (s ≠ r → yrw' s = yrw s ∧ ywi' s = ywi s ∧ yfm' s = yfm s)) (q : yrw' r = nI w ∧ ywi' r = nI h ∧ yfm' r = nI g) :
    sf_Regs xrk (upd xrw r (nI w)) (upd xcl r (nI h)) (upd xfm r (nI g)) xnm' yrk' yrw' ywi' yfm' yce' := by
  obtain ⟨a1, a2, a3, a4⟩ := H.1 r hr
  have b1 := H.2.1
  obtain ⟨s1, s2, s3, s4, s5⟩ := S
  refine sf_Regs_upd hr H (fun s hs z => ⟨rfl, pk_un z, pk_un z, pk_un z, (hy s hs).1, (hy s hs).2 z⟩) (fun k hk => ?_) hY2 2 w h g ⟨by rw [a1, e0], pk_us, pk_us, pk_us, by rw [(hy r hr).1, e0], q⟩ ⟨s3, s4, s1, s2, Or.inr (Or.inr ⟨rfl, hg⟩)⟩ (fun a b ha hb hz => ?_)
  · by_cases z : 36 * r ≤ k ∧ k < 36 * r + 36
    · obtain ⟨a, b, ha, hb, rfl⟩ : ∃ a b, a < 6 ∧ b < 6 ∧ k = 36 * r + 6 * a + b := ⟨(k - 36 * r) / 6, (k - 36 * r) % 6, by omega, by omega, by omega⟩
      rw [hX a b ha hb, hY a b ha hb]
      exact b1 _ (by omega)
    · rw [hX2 k (by omega), hY2 k hk (by omega)]
      exact b1 k hk
  · show yce' (36 * r + (6 * a + b)) = 0
    rw [← Nat.add_assoc, hY a b ha hb, Nat.add_assoc]
    exact O b a hb ha (by omega)
