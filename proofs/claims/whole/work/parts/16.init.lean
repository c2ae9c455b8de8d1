def sf_In (i : Nat) (rk rw cl fm nm : Nat → Int32) : Prop := (∀ s, s < i → rk s = 0 ∧ rw s = 1 ∧ cl s = 1 ∧ fm s = 0) ∧ ∀ k, nm k = 0
theorem sf_In_s {i : Nat} {rk rw cl fm nm A : Nat → Int32} (h : sf_In i rk rw cl fm nm) (hA : sf_blk (36 * i) 36 (fun _ => 0) nm A) : sf_In (i + 1) (upd rk i 0) (upd rw i 1) (upd cl i 1) (upd fm i 0) A := by
  refine ⟨fun s hs => ?_, fun k => ?_⟩
  · by_cases z : s = i
    · rw [z, pk_us, pk_us, pk_us, pk_us]; exact ⟨rfl, rfl, rfl, rfl⟩
    · rw [pk_un z, pk_un z, pk_un z, pk_un z]; exact h.1 s (by omega)
  · by_cases z : 36 * i ≤ k ∧ k < 36 * i + 36
    · have := hA.1 (k - 36 * i) (by omega)
      rw [show 36 * i + (k - 36 * i) = k by omega] at this
      exact this
    · rw [hA.2 k (by omega)]; exact h.2 k
theorem sf_In_e {xrk xrw xcl xfm xnm yrk yrw ywi yfm yce : Nat → Int32} (hx : sf_In 6 xrk xrw xcl xfm xnm) (hy : sf_In 13 yrk yrw ywi yfm yce) : sf_Regs xrk xrw xcl xfm xnm yrk yrw ywi yfm yce := by
  refine ⟨fun r hr => ?_, fun k _ => by rw [hx.2, hy.2], fun r hr => ?_⟩
  · obtain ⟨a1, a2, a3, a4⟩ := hx.1 r hr
    obtain ⟨b1, b2, b3, b4⟩ := hy.1 r (by omega)
    rw [a1, a2, a3, a4, b1, b2, b3, b4]
    exact ⟨rfl, rfl, rfl, rfl⟩
  · obtain ⟨b1, b2, b3, b4⟩ := hy.1 r (by omega)
    exact ⟨0, 1, 1, 0, b1, b2, b3, b4, ⟨by omega, by omega, by omega, by omega, Or.inl ⟨rfl, rfl, rfl, rfl⟩⟩, fun i j _ _ _ => hy.2 _⟩
theorem sx_init {post : SX → Prop} (p : ∀ xrk xrw xcl xfm xnm, sf_In 6 xrk xrw xcl xfm xnm → post (nI 0, nI 0, nI 0, xrk, xrw, xcl, xfm, xnm, fun _ => 0, fun _ => 0, fun _ => 0, fun _ => 0, fun _ => 0, fun _ => 0, fun _ => 0, fun _ => 0)) : wpX_init post := by
  unfold wpX_init
  refine pk_loop (fun n i (s : (Nat → Int32) × (Nat → Int32) × (Nat → Int32) × (Nat → Int32) × (Nat → Int32)) => wX_init_111 post n (nI i) 0 0 0 s.1 s.2.1 s.2.2.1 s.2.2.2.1 s.2.2.2.2 (fun _ => 0) (fun _ => 0) (fun _ => 0) (fun _ => 0) (fun _ => 0) (fun _ => 0) (fun _ => 0) (fun _ => 0)) (fun i s => sf_In i s.1 s.2.1 s.2.2.1 s.2.2.2.1 s.2.2.2.2) 6 0 (fun _ => 0, fun _ => 0, fun _ => 0, fun _ => 0, fun _ => 0) (by omega) ⟨fun s hs => absurd hs (Nat.not_lt_zero s), fun _ => rfl⟩ (fun n s hs => br_t (nI_le (a := 6) (b := 6) (by omega) (by decide)) ?_) (fun n i s hi hs k => br_f (nI_ge (b := 6) hi (by decide)) (sx_shape hi 0 1 1 0 (fun A hA => nm_r (nI_1 i) (k (_, _, _, _, A) (sf_In_s hs hA)))))
  exact p _ _ _ _ _ hs
theorem sy_init {post : SY → Prop} (p : ∀ yrk yrw ywi yfm yce, sf_In 13 yrk yrw ywi yfm yce → post (nI 0, nI 0, nI 0, yrk, yrw, ywi, yfm, yce, fun _ => 0, fun _ => 0, fun _ => 0, fun _ => 0, fun _ => 0, fun _ => 0, fun _ => 0, fun _ => 0)) : wpY_init post := by
  unfold wpY_init
  refine pk_loop (fun n i (s : (Nat → Int32) × (Nat → Int32) × (Nat → Int32) × (Nat → Int32) × (Nat → Int32)) => wY_init_109 post n (nI i) 0 0 0 s.1 s.2.1 s.2.2.1 s.2.2.2.1 s.2.2.2.2 (fun _ => 0) (fun _ => 0) (fun _ => 0) (fun _ => 0) (fun _ => 0) (fun _ => 0) (fun _ => 0) (fun _ => 0)) (fun i s => sf_In i s.1 s.2.1 s.2.2.1 s.2.2.2.1 s.2.2.2.2) 13 0 (fun _ => 0, fun _ => 0, fun _ => 0, fun _ => 0, fun _ => 0) (by omega) ⟨fun s hs => absurd hs (Nat.not_lt_zero s), fun _ => rfl⟩ (fun n s hs => br_t (nI_le (a := 13) (b := 13) (by omega) (by decide)) ?_) (fun n i s hi hs k => br_f (nI_ge (b := 13) hi (by decide)) (sy_shapeN (n := 0) (m := 0) hi (by omega) (by omega) (fun A hA => nm_r (nI_1 i) (k (_, _, _, _, A) (sf_In_s hs hA)))))
  exact p _ _ _ _ _ hs
theorem i_vc0 : wpX_init (fun u => wpY_init (fun v => i_Rel 0 u v)) :=
  sx_init (fun _ _ _ _ _ hx => sy_init (fun _ _ _ _ _ hy => sf_mk (n := 0) (c := 0) (d := 0) (sf_In_e hx hy) (sf_Form_0 _ _ _ _ _ _ _ _ _ _ _ _ _ _)))
