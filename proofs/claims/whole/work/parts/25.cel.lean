/-- the three index numbers of round N -/
def sf_tt (l1 l2 N t : Nat) : Nat := if t = 0 then N / (l1 * l2) else if t = 1 then N / l2 % l1 else N % l2
theorem sf_tt_ix {l1 l2 a b c : Nat} (hb : b < l1) (hc : c < l2) : sf_tt l1 l2 ((a * l1 + b) * l2 + c) 0 = a ∧ sf_tt l1 l2 ((a * l1 + b) * l2 + c) 1 = b ∧ sf_tt l1 l2 ((a * l1 + b) * l2 + c) 2 = c := by
  have e1 : ((a * l1 + b) * l2 + c) / l2 = a * l1 + b := by
    rw [Nat.add_comm, Nat.add_mul_div_right _ _ (by omega), Nat.div_eq_of_lt hc, Nat.zero_add]
  have e2 : ((a * l1 + b) * l2 + c) % l2 = c := by
    rw [Nat.add_comm, Nat.add_mul_mod_self_right, Nat.mod_eq_of_lt hc]
  have e3 : (a * l1 + b) / l1 = a := by
    rw [Nat.add_comm, Nat.add_mul_div_right _ _ (by omega), Nat.div_eq_of_lt hb, Nat.zero_add]
  have e4 : (a * l1 + b) % l1 = b := by
    rw [Nat.add_comm, Nat.add_mul_mod_self_right, Nat.mod_eq_of_lt hb]
  refine ⟨?_, ?_, ?_⟩
  · show ((a * l1 + b) * l2 + c) / (l1 * l2) = a
    rw [Nat.mul_comm l1 l2, ← Nat.div_div_eq_div_mul, e1, e3]
  · show ((a * l1 + b) * l2 + c) / l2 % l1 = b
    rw [e1, e4]
  · exact e2
theorem sf_tt_lt {l0 l1 l2 N : Nat} (h1 : 0 < l1) (h2 : 0 < l2) (hN : N < l0 * l1 * l2) : sf_tt l1 l2 N 0 < l0 ∧ sf_tt l1 l2 N 1 < l1 ∧ sf_tt l1 l2 N 2 < l2 := by
  refine ⟨?_, Nat.mod_lt _ h1, Nat.mod_lt _ h2⟩
  show N / (l1 * l2) < l0
  apply Nat.div_lt_of_lt_mul
  rw [Nat.mul_comm, ← Nat.mul_assoc]
  exact hN
/-- cells after N additions -/
def sf_cel (y0 : Nat → Int32) (pl : Nat → Nat) (vl : Nat → Int32) : Nat → Nat → Int32
  | 0 => y0
  | N + 1 => upd (sf_cel y0 pl vl N) (pl N) (sf_cel y0 pl vl N (pl N) + vl N)
theorem sf_cel_o {y0 : Nat → Int32} {pl : Nat → Nat} {vl : Nat → Int32} {lo hi : Nat} : ∀ N, (∀ M, M < N → lo ≤ pl M ∧ pl M < hi) → ∀ k, (k < lo ∨ hi ≤ k) → sf_cel y0 pl vl N k = y0 k := by
  intro N
  induction N with
  | zero => intro _ k _; rfl
  | succ N ih =>
    intro h k hk
    have := h N (by omega)
    show upd (sf_cel y0 pl vl N) (pl N) _ k = y0 k
    rw [pk_un (by omega)]
    exact ih (fun M hM => h M (by omega)) k hk
theorem sf_cel_O {y0 : Nat → Int32} {pl : Nat → Nat} {vl : Nat → Int32} {to h w : Nat} (hw : w ≤ 6) (O : sf_Out h w (fun i => y0 (36 * to + i))) : ∀ N, (∀ M, M < N → ∃ i j, i < h ∧ j < w ∧ pl M = 36 * to + (6 * i + j)) → sf_Out h w (fun i => sf_cel y0 pl vl N (36 * to + i)) := by
  intro N
  induction N with
  | zero => intro _; exact O
  | succ N ih =>
    intro hM i j hi hj hz
    obtain ⟨a, b, ha, hb, e⟩ := hM N (by omega)
    show upd (sf_cel y0 pl vl N) (pl N) _ (36 * to + (6 * i + j)) = 0
    rw [e, pk_un (by omega)]
    exact ih (fun M h => hM M (by omega)) i j hi hj hz
theorem sf_cel_x {y0 xnm : Nat → Int32} {pl : Nat → Nat} {vl : Nat → Int32} {N : Nat} (hp : pl N < 216) (h : ∀ k, k < 216 → xnm k = sf_cel y0 pl vl N k) : ∀ k, k < 216 → upd xnm (pl N) (xnm (pl N) + vl N) k = sf_cel y0 pl vl (N + 1) k := by
  intro k hk
  show _ = upd (sf_cel y0 pl vl N) (pl N) (sf_cel y0 pl vl N (pl N) + vl N) k
  by_cases z : k = pl N
  · rw [z, pk_us, pk_us, h _ hp]
  · rw [pk_un z, pk_un z]
    exact h k hk
/-- one round of the component's innermost loop -/
theorem sx_add_step {post : SX → Prop} {J66 J84 : Int32 → Int32 → Int32 → Int32 → (Nat → Int32) → (Nat → Int32) → (Nat → Int32) → (Nat → Int32) → (Nat → Int32) → (Nat → Int32) → (Nat → Int32) → (Nat → Int32) → (Nat → Int32) → (Nat → Int32) → (Nat → Int32) → (Nat → Int32) → (Nat → Int32) → Prop} {xD xC : Int32} {xrk xrw xcl xfm xnm xk xa xcp xfi xse xsp xin xva : Nat → Int32} {n c to l2 e m : Nat} {p q x4 x5 x7 x8 : Int32} {yce ykd ynu ysz yfi yse yrw ywi : Nat → Int32} (tt : Nat → Nat) (hx : ∀ t, t < 3 → upd xin 2 (nI e) t = nI (tt t)) (h6 : ∀ t, t < 3 → tt t < 6) (hn : n ≤ 20) (hc : c ≤ 6) (hp : ∀ i, i < n → sf_Pt c xk xa ykd ynu ysz i) (hs : sf_Cps c xcp xfi xse yce yfi yse yrw ywi) (hH : sf_H ykd n = 1) (hto : to < 6) (hp1 : sf_id p) (hq1 : sf_id q) (he : e < l2) (hl2 : l2 ≤ 6)
    (K : ∀ xva', wX_addUpFormula_102 post J66 J84 (nI to) p q x4 x5 (nI l2) x7 x8 m (nI (e + 1)) (nI n) xD xC xrk xrw xcl xfm (upd xnm (36 * to + (6 * sf_at p tt + sf_at q tt)) (xnm (36 * to + (6 * sf_at p tt + sf_at q tt)) + sf_Z ykd ynu ysz xa xcp xfi xse tt n (n - 1))) xk xa xcp xfi xse xsp (upd xin 2 (nI e)) xva') : wX_addUpFormula_102 post J66 J84 (nI to) p q x4 x5 (nI l2) x7 x8 (m + 1) (nI e) (nI n) xD xC xrk xrw xcl xfm xnm xk xa xcp xfi xse xsp xin xva := by
  have l1 := sf_at_lt hp1 h6
  have l2' := sf_at_lt hq1 h6
  have ei : nI to * 36 + nI (6 * sf_at p tt + sf_at q tt) = nI (36 * to + (6 * sf_at p tt + sf_at q tt)) := sf_xp to _
  have ec : (nI (36 * to + (6 * sf_at p tt + sf_at q tt))).toNatClampNeg = 36 * to + (6 * sf_at p tt + sf_at q tt) := nI_clamp (by omega)
  have ev : vp_in (nI (36 * to + (6 * sf_at p tt + sf_at q tt))) 216 := vp_in_nI (by omega) (by decide)
  refine br_f (nI_ge he (by omega)) (nm_e (sx_place tt hx hp1 hq1 ?_))
  rw [ei, ec]
  refine ⟨ev, ?_⟩
  unfold wpX_formulaValue
  dsimp only
  exact ⟨n + 1, sx_eval tt hx h6 hn hc hp hs hH _ (fun xva' => ⟨ev, nm_e (nm_r (nI_1 e) (K xva'))⟩) n 0 (by omega) xva (sf_V_0 _ _ _)⟩
