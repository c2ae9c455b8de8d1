theorem sx_copyReg {post : SX → Prop} {xP xD : Int32} {xrk xrw xcl xfm xnm xk xa xcp xfi xse xsp xin xva : Nat → Int32} {r c : Nat} (hr : r < 6) (hc : c < 6) (p : ∀ A, sf_blk (36 * c) 36 (fun i => xnm (36 * r + i)) xcp A → post (xP, xD, nI c, xrk, xrw, xcl, xfm, xnm, xk, xa, A, xfi, xse, xsp, xin, xva)) : wpX_copyRegister post (xP, xD, nI c, xrk, xrw, xcl, xfm, xnm, xk, xa, xcp, xfi, xse, xsp, xin, xva) (nI r) := by
  unfold wpX_copyRegister
  dsimp only
  refine pk_loop (fun n i (A : Nat → Int32) => wX_copyRegister_2 post (nI r) xP xD (nI c) n (nI i) xrk xrw xcl xfm xnm xk xa A xfi xse xsp xin xva) (fun i A => sf_blk (36 * c) i (fun i => xnm (36 * r + i)) xcp A) 36 0 xcp (by omega) (sf_blk_0 _ _ _) (fun n A hA => br_t (nI_le (a := 36) (b := 36) (by omega) (by decide)) (p A hA)) (fun n i A hi hA k => br_f (nI_ge (b := 36) hi (by decide)) ?_)
  have e1 : nI r * 36 + nI i = nI (36 * r + i) := sf_xp r i
  have e2 : nI c * 36 + nI i = nI (36 * c + i) := sf_xp c i
  refine ⟨by rw [e1]; exact vp_in_nI (by omega) (by decide), by rw [e2]; exact vp_in_nI (by omega) (by decide), nm_r (e' := upd A (36 * c + i) (xnm (36 * r + i))) (by rw [e1, e2, nI_clamp (by omega), nI_clamp (by omega)]) (nm_r (nI_1 i) (k _ (sf_blk_s hA rfl)))⟩
/-- indices that fit a rank -/
def sf_ix (k : Nat) (p q : Int32) : Prop := (k = 0 ∧ p = -1 ∧ q = -1) ∨ (k = 1 ∧ (∃ a : Nat, a < 3 ∧ p = nI a) ∧ q = -1) ∨ (k = 2 ∧ ∃ a b : Nat, a < 3 ∧ b < 3 ∧ a ≠ b ∧ p = nI a ∧ q = nI b)
theorem sf_m1n {a : Nat} (h : a < 3) : ¬ nI a = -1 := by
  have H : ∀ a, a < 3 → ¬ nI a = -1 := by decide
  exact H a h
theorem sx_ix_t {post : Int32 → Prop} {k : Nat} {p q : Int32} (h : sf_ix k p q) (P : post 1) : wpX_areIndicesOfRank post (nI k) p q := by
  rcases h with ⟨rfl, rfl, rfl⟩ | ⟨rfl, ⟨a, ha, rfl⟩, rfl⟩ | ⟨rfl, a, b, ha, hb, hab, rfl, rfl⟩
  · exact br_t rfl (br_t rfl (br_t rfl P))
  · exact br_f (by decide) (br_f (nI_pos (by omega)) (br_t (nI_lt (b := 3) ha (by decide)) (br_t rfl (br_t rfl P))))
  · exact br_f (by decide) (br_f (nI_pos (by omega)) (br_t (nI_lt (b := 3) ha (by decide)) (br_f (by decide) (br_f (nI_pos (by omega)) (br_f (nI_ge (b := 3) hb (by decide)) (br_f (fun y => hab ((nI_eq (by omega) (by omega)).mp y)) P))))))
theorem sx_ix_f {post : Int32 → Prop} {k : Nat} {p q : Int32} (hk : k ≤ 2) (h : ¬ sf_ix k p q) (P : post 0) : wpX_areIndicesOfRank post (nI k) p q := by
  have i3 : ∀ {x : Int32}, ¬ x < 0 → x < 3 → ∃ a : Nat, a < 3 ∧ x = nI a := by
    intro x h0 h3
    obtain ⟨a, ha, rfl⟩ := nI_of h0
    exact ⟨a, (nI_ltI (b := 3) ha (by decide)).mp h3, rfl⟩
  match k, hk, h with
  | 0, _, h => exact br_t rfl (br_c (fun z1 => br_c (fun z2 => absurd (Or.inl ⟨rfl, z1, z2⟩) h) (fun _ => P)) (fun _ => P))
  | 1, _, h => exact br_f (by decide) (br_c (fun _ => P) (fun z1 => br_c (fun z2 => br_t rfl (br_c (fun z3 => absurd (Or.inr (Or.inl ⟨rfl, i3 z1 z2, z3⟩)) h) (fun _ => P))) (fun _ => P)))
  | 2, _, h =>
    refine br_f (by decide) (br_c (fun _ => P) (fun z1 => br_c (fun z2 => br_f (by decide) (br_c (fun _ => P) (fun z3 => br_c (fun _ => P) (fun z4 => br_c (fun _ => P) (fun z5 => absurd ?_ h))))) (fun _ => P)))
    obtain ⟨a, ha, rfl⟩ := i3 z1 z2
    obtain ⟨b, hb, rfl⟩ := i3 z3 (Int32.not_le.mp z4)
    exact Or.inr (Or.inr ⟨rfl, a, b, ha, hb, fun y => z5 (by rw [y]), rfl, rfl⟩)
theorem sy_idx_t {post : Int32 → Prop} {v : SY} {p : Int32} (h : sf_id p) (P : post 1) : wpY_isIndex post v p := by
  obtain ⟨yP, yA, yD, yrk, yrw, ywi, yfm, yce, ykd, ynu, ysz, yva, yfi, yse, yat, ysp⟩ := v
  rcases h with rfl | ⟨a, ha, rfl⟩
  · exact br_f (by decide) (br_f (by decide) P)
  · have H : ∀ a, a < 3 → ¬ nI a < -1 := by decide
    exact br_f (H a ha) (br_f (nI_nlt (a := 2) (by omega) (by omega)) P)
theorem sy_idx_f {post : Int32 → Prop} {v : SY} {p : Int32} (h : ¬ sf_id p) (P : post 0) : wpY_isIndex post v p := by
  obtain ⟨yP, yA, yD, yrk, yrw, ywi, yfm, yce, ykd, ynu, ysz, yva, yfi, yse, yat, ysp⟩ := v
  refine br_c (fun _ => P) (fun z1 => br_c (fun _ => P) (fun z2 => absurd ?_ h))
  by_cases h0 : p < 0
  · left
    rw [Int32.lt_iff_toInt_lt] at z1 h0
    apply Int32.toInt_inj.mp
    have e1 : (-1 : Int32).toInt = -1 := by decide
    have e0 : (0 : Int32).toInt = 0 := by decide
    omega
  · right
    obtain ⟨a, ha, rfl⟩ := nI_of h0
    exact ⟨a, by
      have : ¬ 2 < a := fun y => z2 (nI_lt (a := 2) y ha)
      omega, rfl⟩
theorem sf_ix_id {k : Nat} {p q : Int32} (h : sf_ix k p q) : sf_id p ∧ sf_id q ∧ (p = q → p = -1) := by
  rcases h with ⟨rfl, rfl, rfl⟩ | ⟨rfl, ⟨a, ha, rfl⟩, rfl⟩ | ⟨rfl, a, b, ha, hb, hab, rfl, rfl⟩
  · exact ⟨Or.inl rfl, Or.inl rfl, fun _ => rfl⟩
  · exact ⟨Or.inr ⟨a, ha, rfl⟩, Or.inl rfl, fun e => e⟩
  · exact ⟨Or.inr ⟨a, ha, rfl⟩, Or.inr ⟨b, hb, rfl⟩, fun e => absurd ((nI_eq (by omega) (by omega)).mp e) hab⟩
theorem sy_array_gen {post : Int32 → SY → Prop} {yP yA yD : Int32} {yrk yrw ywi yfm yce ykd ynu ysz yva yfi yse yat ysp : Nat → Int32} {r k : Nat} {p q : Int32} (hr : r < 6) (hk : k ≤ 2) (e : yrk r = nI k) (bad : ¬ sf_ix k p q → post (-1000000001) (yP, yA, yD, yrk, yrw, ywi, yfm, yce, ykd, ynu, ysz, yva, yfi, yse, yat, ysp)) (good : sf_ix k p q → wY_array_89 post (nI r) p q yP yA yD yrk yrw ywi yfm yce ykd ynu ysz yva yfi yse yat ysp) : wpY_array post (yP, yA, yD, yrk, yrw, ywi, yfm, yce, ykd, ynu, ysz, yva, yfi, yse, yat, ysp) (nI r) p q := by
  have hv : vp_in (nI r) 13 := vp_in_nI (by omega) (by decide)
  have ec : (nI r).toNatClampNeg = r := nI_clamp (by omega)
  unfold wpY_array
  dsimp only
  by_cases hp : sf_id p
  · by_cases hq : sf_id q
    · rw [ec, e]
      refine sy_reg_t hr (br_f (by decide) (sy_idx_t hp (br_f (by decide) (sy_idx_t hq (br_f (by decide) ⟨hv, ?_⟩)))))
      have m1 : (-1 : Int32) < 0 := by decide
      match k, hk, e, bad, good with
      | 0, _, e, bad, good =>
        rcases hp with rfl | ⟨a, ha, rfl⟩
        · refine br_t (by decide) (br_t m1 (br_t rfl ⟨hv, ?_⟩))
          rw [ec, e]
          refine br_t (by decide) ?_
          rcases hq with rfl | ⟨b, hb, rfl⟩
          · exact br_t m1 (br_t rfl (br_t rfl (br_t m1 (good (Or.inl ⟨rfl, rfl, rfl⟩)))))
          · refine br_f (nI_pos (by omega)) (br_f (by decide) (bad ?_))
            rintro (⟨_, _, z⟩ | ⟨z, _⟩ | ⟨z, _⟩)
            · exact sf_m1n hb z
            · omega
            · omega
        · refine br_t (by decide) (br_f (nI_pos (by omega)) (br_f (by decide) (bad ?_)))
          rintro (⟨_, z, _⟩ | ⟨z, _⟩ | ⟨z, _⟩)
          · exact sf_m1n ha z
          · omega
          · omega
      | 1, _, e, bad, good =>
        rcases hp with rfl | ⟨a, ha, rfl⟩
        · refine br_f (by decide) (br_t m1 (br_f (by decide) (bad ?_)))
          rintro (⟨z, _⟩ | ⟨_, ⟨a, ha, z⟩, _⟩ | ⟨z, _⟩)
          · omega
          · exact sf_m1n ha z.symm
          · omega
        · refine br_f (by decide) (br_f (nI_pos (by omega)) (br_t rfl ⟨hv, ?_⟩))
          rw [ec, e]
          refine br_t (by decide) ?_
          rcases hq with rfl | ⟨b, hb, rfl⟩
          · exact br_t m1 (br_t rfl (br_f (sf_m1n ha) (good (Or.inr (Or.inl ⟨rfl, ⟨a, ha, rfl⟩, rfl⟩)))))
          · refine br_f (nI_pos (by omega)) (br_f (by decide) (bad ?_))
            rintro (⟨z, _⟩ | ⟨_, _, z⟩ | ⟨z, _⟩)
            · omega
            · exact sf_m1n hb z
            · omega
      | 2, _, e, bad, good =>
        rcases hp with rfl | ⟨a, ha, rfl⟩
        · refine br_f (by decide) (br_t m1 (br_f (by decide) (bad ?_)))
          rintro (⟨z, _⟩ | ⟨z, _⟩ | ⟨_, a, b, ha, _, _, z, _⟩)
          · omega
          · omega
          · exact sf_m1n ha z.symm
        · refine br_f (by decide) (br_f (nI_pos (by omega)) (br_t rfl ⟨hv, ?_⟩))
          rw [ec, e]
          refine br_f (by decide) ?_
          rcases hq with rfl | ⟨b, hb, rfl⟩
          · refine br_t m1 (br_f (by decide) (bad ?_))
            rintro (⟨z, _⟩ | ⟨z, _⟩ | ⟨_, a, b, _, hb, _, _, z⟩)
            · omega
            · omega
            · exact sf_m1n hb z.symm
          · refine br_f (nI_pos (by omega)) (br_t rfl (br_c (fun z => br_f (nI_pos (by omega)) (bad ?_)) (fun z => good (Or.inr (Or.inr ⟨rfl, a, b, ha, hb, fun y => z (by rw [y]), rfl, rfl⟩)))))
            rintro (⟨y, _⟩ | ⟨y, _⟩ | ⟨_, a', b', ha', hb', hab, y1, y2⟩)
            · omega
            · omega
            · rw [y1, y2] at z
              exact hab ((nI_eq (by omega) (by omega)).mp z)
    · exact sy_reg_t hr (br_f (by decide) (sy_idx_t hp (br_f (by decide) (sy_idx_f hq (br_t rfl (bad (fun z => hq (sf_ix_id z).2.1)))))))
  · exact sy_reg_t hr (br_f (by decide) (sy_idx_f hp (br_t rfl (bad (fun z => hp (sf_ix_id z).1)))))
