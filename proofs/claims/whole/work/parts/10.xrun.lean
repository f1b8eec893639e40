section LFV
variable {na n nl ns : Nat} {ph gX gY rc : Int32} {tmp con sca ini ori fus lLo lHi lF lC xg xj xd gf gl sl so sk sa sc sv yg yj yd dA dC dO kd ar co va : Nat → Int32} {F L Lo Hi G gp : Nat → Nat}
theorem lf_to_x {σ : Type} {f : Nat → σ → σ} {lo hi i : Nat} {m : σ} (h : hi < i) (h2 : i ≤ hi + 1 ∨ i = lo) : lf_to f lo i m = lf_to f lo (hi + 1) m := by
  rcases h2 with h2 | h2
  · rw [show i = hi + 1 by omega]
  · rw [lf_to_e (show i ≤ lo by omega), lf_to_e (show hi + 1 ≤ lo by omega)]
theorem lx_cellAt {post : Int32 → Prop} {z : Nat} {i : Int32} (hz : z < 36) (k : post (lf_cell n (sa z) (sc z * i + sv z))) : wpX_cellAt post (nI na, nI n, ph, nI nl, nI ns, gX, rc, tmp, con, sca, ini, ori, fus, lLo, lHi, lF, lC, xg, xj, xd, gf, gl, sl, so, sk, sa, sc, sv) (nI z) i := by
  have hi : vp_in (nI z) 36 := vp_in_nI hz (by decide)
  have e : (nI z).toNatClampNeg = z := nI_clamp (by omega)
  refine ⟨hi, hi, nm_r (by rw [e]) (br_c (fun h => ?_) (fun h => br_c (fun h2 => ⟨hi, ?_⟩) (fun h2 => ?_)))⟩
  · rw [lf_cell_o (Or.inl h)] at k; exact k
  · rw [e]
    unfold lf_cell at k
    rw [if_neg (fun q => q.elim h (fun q => q h2))] at k
    exact k
  · rw [lf_cell_o (Or.inr h2)] at k; exact k
theorem lx_comp {post : Int32 → Prop} {o l r : Int32} (k : post (lf_al o l r)) : wpX_compute post o l r := by
  unfold lf_al at k
  refine br_c (fun h => ?_) (fun h => br_c (fun h2 => ?_) (fun h2 => ?_))
  · rw [if_pos h] at k; exact k
  · rw [if_neg h, if_pos h2] at k; exact k
  · rw [if_neg h, if_neg h2] at k; exact k

/-! on original -/
theorem lx_op66_original {post : Int32 → Prop} {z : Nat} {i c : Int32} (hz : z < 36) (hna : na ≤ 6) (hn : n ≤ 16) (ha : ∃ a, a < na ∧ sa z = nI a) (hc : ¬ (¬ c = 0 ∧ ¬ con (sa z).toNatClampNeg = 0)) (k : post (lf_rd n con c (ori, sca) (sa z) (sc z * i + sv z))) : wX_operandValue__original_66 post (nI z) i (nI na) (nI n) ph (nI nl) (nI ns) gX rc tmp con sca ini ori fus lLo lHi lF lC xg xj xd gf gl sl so sk sa sc sv := by
  unfold wX_operandValue__original_66
  refine lx_cellAt hz ?_
  unfold lf_rd at k
  rw [if_neg hc] at k
  obtain ⟨a, ha, ea⟩ := ha
  rcases lf_rng hn (sc z * i + sv z) with h | ⟨j, hj, ej⟩
  · rw [if_pos h] at k
    rw [lf_cell_o h]
    exact br_t rfl k
  · rw [ej, if_neg (lf_rng_n hn hj), ea, lf_16] at k
    rw [ej, ea, lf_cell_i hj hn]
    exact br_f (lf_ne1 (by omega)) ⟨vp_in_nI (by omega) (by decide), k⟩
theorem lx_opv_original {post : Int32 → Prop} {z : Nat} {i c : Int32} (hz : z < 36) (hna : na ≤ 6) (hn : n ≤ 16) (hw : sk z = 0 ∨ sk z = 1 ∨ (sk z = 2 ∧ ∃ a, a < na ∧ sa z = nI a)) (k : post (lf_op n con c (ori, sca) (sk z) (sa z) (sc z) (sv z) i)) : wpX_operandValue__original post (nI na, nI n, ph, nI nl, nI ns, gX, rc, tmp, con, sca, ini, ori, fus, lLo, lHi, lF, lC, xg, xj, xd, gf, gl, sl, so, sk, sa, sc, sv) (nI z) i c := by
  have hi : vp_in (nI z) 36 := vp_in_nI hz (by decide)
  have e : (nI z).toNatClampNeg = z := nI_clamp (by omega)
  unfold lf_op at k
  refine ⟨hi, br_c (fun h => ⟨hi, ?_⟩) (fun h => ⟨hi, br_c (fun h1 => ⟨hi, ?_⟩) (fun h1 => ?_)⟩)⟩
  · rw [e] at h ⊢
    rw [if_pos h] at k; exact k
  · rw [e] at h h1 ⊢
    rw [if_neg h, if_pos h1] at k; exact k
  · rw [e] at h h1
    rw [if_neg h, if_neg h1] at k
    have ha : ∃ a, a < na ∧ sa z = nI a := hw.elim (fun q => absurd q h) (fun q => q.elim (fun q => absurd q h1) (fun q => q.2))
    have hv : vp_in (sa (nI z).toNatClampNeg) 6 := by
      obtain ⟨a, ha, ea⟩ := ha
      rw [e, ea]; exact vp_in_nI (by omega) (by decide)
    refine br_c (fun hc => lx_op66_original hz hna hn ha (fun q => q.1 hc) k) (fun hc => ⟨hi, hv, br_c (fun hd => ?_) (fun hd => ⟨hi, hv, ?_⟩)⟩)
    · rw [e] at hd
      exact lx_op66_original hz hna hn ha (fun q => q.2 hd) k
    · rw [e] at hd ⊢
      unfold lf_rd at k
      rw [if_pos ⟨hc, hd⟩] at k
      exact k
theorem lx_st32_original {post : SX → Prop} {z : Nat} {i c r : Int32} (hz : z < 36) (hna : na ≤ 6) (hn : n ≤ 16) (ha : ∃ a, a < na ∧ sa z = nI a) (hc : ¬ (¬ c = 0 ∧ ¬ con (sa z).toNatClampNeg = 0))
    (k : post (nI na, nI n, ph, nI nl, nI ns, gX, rc, tmp, con, (lf_sto n con c (ori, sca) (sa z) (sc z * i + sv z) r).2, ini, (lf_sto n con c (ori, sca) (sa z) (sc z * i + sv z) r).1, fus, lLo, lHi, lF, lC, xg, xj, xd, gf, gl, sl, so, sk, sa, sc, sv)) : wX_store__original_32 post (nI z) i r (nI na) (nI n) ph (nI nl) (nI ns) gX rc tmp con sca ini ori fus lLo lHi lF lC xg xj xd gf gl sl so sk sa sc sv := by
  unfold wX_store__original_32
  refine lx_cellAt hz ?_
  unfold lf_sto at k
  rw [if_neg hc] at k
  obtain ⟨a, ha, ea⟩ := ha
  rcases lf_rng hn (sc z * i + sv z) with h | ⟨j, hj, ej⟩
  · rw [if_pos h] at k
    rw [lf_cell_o h]
    exact br_t rfl k
  · rw [ej, if_neg (lf_rng_n hn hj), ea, lf_16] at k
    rw [ej, ea, lf_cell_i hj hn]
    exact br_f (lf_ne1 (by omega)) ⟨vp_in_nI (by omega) (by decide), nm_e k⟩
theorem lx_store_original {post : SX → Prop} {z : Nat} {i c r : Int32} (hz : z < 36) (hna : na ≤ 6) (hn : n ≤ 16) (ha : ∃ a, a < na ∧ sa z = nI a)
    (k : post (nI na, nI n, ph, nI nl, nI ns, gX, rc, tmp, con, (lf_sto n con c (ori, sca) (sa z) (sc z * i + sv z) r).2, ini, (lf_sto n con c (ori, sca) (sa z) (sc z * i + sv z) r).1, fus, lLo, lHi, lF, lC, xg, xj, xd, gf, gl, sl, so, sk, sa, sc, sv)) : wpX_store__original post (nI na, nI n, ph, nI nl, nI ns, gX, rc, tmp, con, sca, ini, ori, fus, lLo, lHi, lF, lC, xg, xj, xd, gf, gl, sl, so, sk, sa, sc, sv) (nI z) i r c := by
  have hi : vp_in (nI z) 36 := vp_in_nI hz (by decide)
  have e : (nI z).toNatClampNeg = z := nI_clamp (by omega)
  have hv : vp_in (sa z) 6 := by
    obtain ⟨a, ha, ea⟩ := ha
    rw [ea]; exact vp_in_nI (by omega) (by decide)
  refine ⟨hi, nm_r (by rw [e]) (br_c (fun hc => lx_st32_original hz hna hn ha (fun q => q.1 hc) k) (fun hc => ⟨hv, br_c (fun hd => lx_st32_original hz hna hn ha (fun q => q.2 hd) k) (fun hd => ⟨hv, nm_e ?_⟩)⟩))⟩
  unfold lf_sto at k
  rw [if_pos ⟨hc, hd⟩] at k
  exact k
theorem lx_exec_original {post : SX → Prop} {s i : Nat} {c : Int32} (hs : s < ns) (hns : ns ≤ 12) (hna : na ≤ 6) (hn : n ≤ 16) (hw : lf_WF na ns sk sa) (hd : ∃ a, a < na ∧ sa (3 * s + 2) = nI a)
    (k : post (nI na, nI n, ph, nI nl, nI ns, gX, rc, tmp, con, (lf_ex n con so sk sa sc sv c i s (ori, sca)).2, ini, (lf_ex n con so sk sa sc sv c i s (ori, sca)).1, fus, lLo, lHi, lF, lC, xg, xj, xd, gf, gl, sl, so, sk, sa, sc, sv)) : wpX_execute__original post (nI na, nI n, ph, nI nl, nI ns, gX, rc, tmp, con, sca, ini, ori, fus, lLo, lHi, lF, lC, xg, xj, xd, gf, gl, sl, so, sk, sa, sc, sv) (nI s) (nI i) c := by
  unfold wpX_execute__original
  refine nm_r (lf_m3 s) ?_
  refine lx_opv_original (by omega) hna hn (hw _ (by omega)) ?_
  dsimp only
  rw [nI_1 (3 * s)]
  refine lx_opv_original (by omega) hna hn (hw _ (by omega)) ?_
  refine ⟨vp_in_nI (by omega) (by decide), ?_⟩
  refine lx_comp ?_
  rw [lf_a2 (3 * s), nI_clamp (show s < 2 ^ 31 by omega)]
  exact lx_store_original (by omega) hna hn hd k
theorem lx_b27_original {post : SX → Prop} {J8 : Int32 → Int32 → Int32 → Int32 → Int32 → Int32 → Int32 → Int32 → (Nat → Int32) → (Nat → Int32) → (Nat → Int32) → (Nat → Int32) → (Nat → Int32) → (Nat → Int32) → (Nat → Int32) → (Nat → Int32) → (Nat → Int32) → (Nat → Int32) → (Nat → Int32) → (Nat → Int32) → (Nat → Int32) → (Nat → Int32) → (Nat → Int32) → (Nat → Int32) → (Nat → Int32) → (Nat → Int32) → (Nat → Int32) → (Nat → Int32) → (Nat → Int32) → Prop} {x1 c : Int32} {i a e : Nat} {m : lf_M} (hae : a ≤ e) (he : e ≤ ns) (hns : ns ≤ 12) (hna : na ≤ 6) (hn : n ≤ 16) (hw : lf_WF na ns sk sa) (hd : ∀ s, s < ns → ∃ a, a < na ∧ sa (3 * s + 2) = nI a)
    (k : J8 (nI (i + 1)) (nI na) (nI n) ph (nI nl) (nI ns) gX rc tmp con ((lf_bd n con so sk sa sc sv c a e i m).2) ini ((lf_bd n con so sk sa sc sv c a e i m).1) fus lLo lHi lF lC xg xj xd gf gl sl so sk sa sc sv) :
    ∀ d s, a ≤ s → s + d = e → wX_runBody__original_27 post J8 x1 (nI e) c (nI i) (d + 1) (nI s) (nI na) (nI n) ph (nI nl) (nI ns) gX rc tmp con ((lf_to (fun s m => lf_ex n con so sk sa sc sv c i s m) a s m).2) ini ((lf_to (fun s m => lf_ex n con so sk sa sc sv c i s m) a s m).1) fus lLo lHi lF lC xg xj xd gf gl sl so sk sa sc sv := by
  intro d
  induction d with
  | zero =>
    intro s h1 h2
    obtain rfl : s = e := by omega
    exact br_t (lf_rfl _) (nm_r (nI_1 i) k)
  | succ d ih =>
    intro s h1 h2
    have h := ih (s + 1) (by omega) (by omega)
    rw [lf_to_s h1] at h
    refine br_f (nI_ge (by omega) (by omega)) ?_
    refine lx_exec_original (by omega) hns hna hn hw (hd s (by omega)) ?_
    exact nm_r (nI_1 s) h
theorem lx_b8_original {post : SX → Prop} {c : Int32} {l e : Nat} {m : lf_M} (hl : l < nl) (hnl : nl ≤ 8) (hLP : lf_LP nl F Lo Hi lLo lHi lF lC) (hae : F l ≤ e) (he : e ≤ ns) (hns : ns ≤ 12) (hna : na ≤ 6) (hn : n ≤ 16) (hw : lf_WF na ns sk sa) (hd : ∀ s, s < ns → ∃ a, a < na ∧ sa (3 * s + 2) = nI a)
    (k : post (nI na, nI n, ph, nI nl, nI ns, gX, rc, tmp, con, (lf_lp n con so sk sa sc sv c (Lo l) (Hi l) (F l) e m).2, ini, (lf_lp n con so sk sa sc sv c (Lo l) (Hi l) (F l) e m).1, fus, lLo, lHi, lF, lC, xg, xj, xd, gf, gl, sl, so, sk, sa, sc, sv)) :
    ∀ d i, Lo l ≤ i → Hi l + 1 ≤ i + d → (i ≤ Hi l + 1 ∨ i = Lo l) → wX_runBody__original_8 post (nI l) (nI e) c (d + 1) (nI i) (nI na) (nI n) ph (nI nl) (nI ns) gX rc tmp con ((lf_to (fun i m => lf_bd n con so sk sa sc sv c (F l) e i m) (Lo l) i m).2) ini ((lf_to (fun i m => lf_bd n con so sk sa sc sv c (F l) e i m) (Lo l) i m).1) fus lLo lHi lF lC xg xj xd gf gl sl so sk sa sc sv := by
  have hi : vp_in (nI l) 8 := vp_in_nI (by omega) (by decide)
  have ec : (nI l).toNatClampNeg = l := nI_clamp (by omega)
  obtain ⟨q1, q2, q3, q4, q5, q6⟩ := hLP l hl
  have ex : ∀ i d, Hi l < i → i ≤ 16 → (i ≤ Hi l + 1 ∨ i = Lo l) → wX_runBody__original_8 post (nI l) (nI e) c (d + 1) (nI i) (nI na) (nI n) ph (nI nl) (nI ns) gX rc tmp con ((lf_to (fun i m => lf_bd n con so sk sa sc sv c (F l) e i m) (Lo l) i m).2) ini ((lf_to (fun i m => lf_bd n con so sk sa sc sv c (F l) e i m) (Lo l) i m).1) fus lLo lHi lF lC xg xj xd gf gl sl so sk sa sc sv := by
    intro i d h1 h2 h3
    refine ⟨hi, br_t ?_ ?_⟩
    · rw [ec, q2]; exact nI_lt h1 (by omega)
    · rw [lf_to_x h1 h3]; exact k
  intro d
  induction d with
  | zero =>
    intro i h1 h2 h3
    exact ex i 0 (by omega) (by omega) h3
  | succ d ih =>
    intro i h1 h2 h3
    by_cases hh : Hi l < i
    · exact ex i (d + 1) hh (by omega) h3
    · have h := ih (i + 1) (by omega) (by omega) (by omega)
      rw [lf_to_s h1] at h
      refine ⟨hi, br_f ?_ ⟨hi, nm_r (by rw [ec, q5]) ⟨e - F l + 1, ?_⟩⟩⟩
      · rw [ec, q2]; exact nI_nlt (by omega) (by omega)
      · have h' := lx_b27_original (post := post) (x1 := nI l) (c := c) (i := i) (a := F l) (e := e) (m := lf_to (fun i m => lf_bd n con so sk sa sc sv c (F l) e i m) (Lo l) i m) (J8 := wX_runBody__original_8 post (nI l) (nI e) c (d + 1)) hae he hns hna hn hw hd h (e - F l) (F l) (Nat.le_refl _) (by omega)
        rw [lf_to_e (Nat.le_refl _)] at h'
        exact h'
theorem lx_body_original {post : SX → Prop} {c : Int32} {l e : Nat} {m : lf_M} (hl : l < nl) (hnl : nl ≤ 8) (hLP : lf_LP nl F Lo Hi lLo lHi lF lC) (hae : F l ≤ e) (he : e ≤ ns) (hns : ns ≤ 12) (hna : na ≤ 6) (hn : n ≤ 16) (hw : lf_WF na ns sk sa) (hd : ∀ s, s < ns → ∃ a, a < na ∧ sa (3 * s + 2) = nI a)
    (k : post (nI na, nI n, ph, nI nl, nI ns, gX, rc, tmp, con, (lf_lp n con so sk sa sc sv c (Lo l) (Hi l) (F l) e m).2, ini, (lf_lp n con so sk sa sc sv c (Lo l) (Hi l) (F l) e m).1, fus, lLo, lHi, lF, lC, xg, xj, xd, gf, gl, sl, so, sk, sa, sc, sv)) : wpX_runBody__original post (nI na, nI n, ph, nI nl, nI ns, gX, rc, tmp, con, m.2, ini, m.1, fus, lLo, lHi, lF, lC, xg, xj, xd, gf, gl, sl, so, sk, sa, sc, sv) (nI l) (nI e) c := by
  have hi : vp_in (nI l) 8 := vp_in_nI (by omega) (by decide)
  have ec : (nI l).toNatClampNeg = l := nI_clamp (by omega)
  obtain ⟨q1, q2, q3, q4, q5, q6⟩ := id (hLP l hl)
  refine ⟨hi, nm_r (by rw [ec, q1]) ⟨Hi l + 1 + 1, ?_⟩⟩
  have h := lx_b8_original hl hnl hLP hae he hns hna hn hw hd k (Hi l + 1) (Lo l) (Nat.le_refl _) (by omega) (Or.inr rfl)
  rw [lf_to_e (Nat.le_refl _)] at h
  exact h
theorem lx_load_original {post : SX → Prop} (k : post (nI na, nI n, ph, nI nl, nI ns, gX, rc, tmp, con, sca, ini, lf_cp ini 96 ori, fus, lLo, lHi, lF, lC, xg, xj, xd, gf, gl, sl, so, sk, sa, sc, sv)) : wpX_loadInit__original post (nI na, nI n, ph, nI nl, nI ns, gX, rc, tmp, con, sca, ini, ori, fus, lLo, lHi, lF, lC, xg, xj, xd, gf, gl, sl, so, sk, sa, sc, sv) := by
  have H : ∀ d i, i + d = 96 → wX_loadInit__original_2 post (nI na) (nI n) ph (nI nl) (nI ns) gX rc (d + 1) (nI i) tmp con sca ini (lf_cp ini i ori) fus lLo lHi lF lC xg xj xd gf gl sl so sk sa sc sv := by
    intro d
    induction d with
    | zero =>
      intro i h
      obtain rfl : i = 96 := by omega
      exact br_t (by decide) k
    | succ d ih =>
      intro i h
      have h1 := ih (i + 1) (by omega)
      rw [← lf_cp_s] at h1
      have hi : vp_in (nI i) 96 := vp_in_nI (by omega) (by decide)
      have ec : (nI i).toNatClampNeg = i := nI_clamp (by omega)
      exact br_f (nI_ge (b := 96) (by omega) (by decide)) ⟨hi, hi, nm_r (by rw [ec]) (nm_r (nI_1 i) h1)⟩
  have h := H 96 0 rfl
  rw [lf_cp0] at h
  exact ⟨97, h⟩

/-! on fused -/
theorem lx_op66_fused {post : Int32 → Prop} {z : Nat} {i c : Int32} (hz : z < 36) (hna : na ≤ 6) (hn : n ≤ 16) (ha : ∃ a, a < na ∧ sa z = nI a) (hc : ¬ (¬ c = 0 ∧ ¬ con (sa z).toNatClampNeg = 0)) (k : post (lf_rd n con c (fus, sca) (sa z) (sc z * i + sv z))) : wX_operandValue__fused_66 post (nI z) i (nI na) (nI n) ph (nI nl) (nI ns) gX rc tmp con sca ini ori fus lLo lHi lF lC xg xj xd gf gl sl so sk sa sc sv := by
  unfold wX_operandValue__fused_66
  refine lx_cellAt hz ?_
  unfold lf_rd at k
  rw [if_neg hc] at k
  obtain ⟨a, ha, ea⟩ := ha
  rcases lf_rng hn (sc z * i + sv z) with h | ⟨j, hj, ej⟩
  · rw [if_pos h] at k
    rw [lf_cell_o h]
    exact br_t rfl k
  · rw [ej, if_neg (lf_rng_n hn hj), ea, lf_16] at k
    rw [ej, ea, lf_cell_i hj hn]
    exact br_f (lf_ne1 (by omega)) ⟨vp_in_nI (by omega) (by decide), k⟩
theorem lx_opv_fused {post : Int32 → Prop} {z : Nat} {i c : Int32} (hz : z < 36) (hna : na ≤ 6) (hn : n ≤ 16) (hw : sk z = 0 ∨ sk z = 1 ∨ (sk z = 2 ∧ ∃ a, a < na ∧ sa z = nI a)) (k : post (lf_op n con c (fus, sca) (sk z) (sa z) (sc z) (sv z) i)) : wpX_operandValue__fused post (nI na, nI n, ph, nI nl, nI ns, gX, rc, tmp, con, sca, ini, ori, fus, lLo, lHi, lF, lC, xg, xj, xd, gf, gl, sl, so, sk, sa, sc, sv) (nI z) i c := by
  have hi : vp_in (nI z) 36 := vp_in_nI hz (by decide)
  have e : (nI z).toNatClampNeg = z := nI_clamp (by omega)
  unfold lf_op at k
  refine ⟨hi, br_c (fun h => ⟨hi, ?_⟩) (fun h => ⟨hi, br_c (fun h1 => ⟨hi, ?_⟩) (fun h1 => ?_)⟩)⟩
  · rw [e] at h ⊢
    rw [if_pos h] at k; exact k
  · rw [e] at h h1 ⊢
    rw [if_neg h, if_pos h1] at k; exact k
  · rw [e] at h h1
    rw [if_neg h, if_neg h1] at k
    have ha : ∃ a, a < na ∧ sa z = nI a := hw.elim (fun q => absurd q h) (fun q => q.elim (fun q => absurd q h1) (fun q => q.2))
    have hv : vp_in (sa (nI z).toNatClampNeg) 6 := by
      obtain ⟨a, ha, ea⟩ := ha
      rw [e, ea]; exact vp_in_nI (by omega) (by decide)
    refine br_c (fun hc => lx_op66_fused hz hna hn ha (fun q => q.1 hc) k) (fun hc => ⟨hi, hv, br_c (fun hd => ?_) (fun hd => ⟨hi, hv, ?_⟩)⟩)
    · rw [e] at hd
      exact lx_op66_fused hz hna hn ha (fun q => q.2 hd) k
    · rw [e] at hd ⊢
      unfold lf_rd at k
      rw [if_pos ⟨hc, hd⟩] at k
      exact k
theorem lx_st32_fused {post : SX → Prop} {z : Nat} {i c r : Int32} (hz : z < 36) (hna : na ≤ 6) (hn : n ≤ 16) (ha : ∃ a, a < na ∧ sa z = nI a) (hc : ¬ (¬ c = 0 ∧ ¬ con (sa z).toNatClampNeg = 0))
    (k : post (nI na, nI n, ph, nI nl, nI ns, gX, rc, tmp, con, (lf_sto n con c (fus, sca) (sa z) (sc z * i + sv z) r).2, ini, ori, (lf_sto n con c (fus, sca) (sa z) (sc z * i + sv z) r).1, lLo, lHi, lF, lC, xg, xj, xd, gf, gl, sl, so, sk, sa, sc, sv)) : wX_store__fused_32 post (nI z) i r (nI na) (nI n) ph (nI nl) (nI ns) gX rc tmp con sca ini ori fus lLo lHi lF lC xg xj xd gf gl sl so sk sa sc sv := by
  unfold wX_store__fused_32
  refine lx_cellAt hz ?_
  unfold lf_sto at k
  rw [if_neg hc] at k
  obtain ⟨a, ha, ea⟩ := ha
  rcases lf_rng hn (sc z * i + sv z) with h | ⟨j, hj, ej⟩
  · rw [if_pos h] at k
    rw [lf_cell_o h]
    exact br_t rfl k
  · rw [ej, if_neg (lf_rng_n hn hj), ea, lf_16] at k
    rw [ej, ea, lf_cell_i hj hn]
    exact br_f (lf_ne1 (by omega)) ⟨vp_in_nI (by omega) (by decide), nm_e k⟩
theorem lx_store_fused {post : SX → Prop} {z : Nat} {i c r : Int32} (hz : z < 36) (hna : na ≤ 6) (hn : n ≤ 16) (ha : ∃ a, a < na ∧ sa z = nI a)
    (k : post (nI na, nI n, ph, nI nl, nI ns, gX, rc, tmp, con, (lf_sto n con c (fus, sca) (sa z) (sc z * i + sv z) r).2, ini, ori, (lf_sto n con c (fus, sca) (sa z) (sc z * i + sv z) r).1, lLo, lHi, lF, lC, xg, xj, xd, gf, gl, sl, so, sk, sa, sc, sv)) : wpX_store__fused post (nI na, nI n, ph, nI nl, nI ns, gX, rc, tmp, con, sca, ini, ori, fus, lLo, lHi, lF, lC, xg, xj, xd, gf, gl, sl, so, sk, sa, sc, sv) (nI z) i r c := by
  have hi : vp_in (nI z) 36 := vp_in_nI hz (by decide)
  have e : (nI z).toNatClampNeg = z := nI_clamp (by omega)
  have hv : vp_in (sa z) 6 := by
    obtain ⟨a, ha, ea⟩ := ha
    rw [ea]; exact vp_in_nI (by omega) (by decide)
  refine ⟨hi, nm_r (by rw [e]) (br_c (fun hc => lx_st32_fused hz hna hn ha (fun q => q.1 hc) k) (fun hc => ⟨hv, br_c (fun hd => lx_st32_fused hz hna hn ha (fun q => q.2 hd) k) (fun hd => ⟨hv, nm_e ?_⟩)⟩))⟩
  unfold lf_sto at k
  rw [if_pos ⟨hc, hd⟩] at k
  exact k
theorem lx_exec_fused {post : SX → Prop} {s i : Nat} {c : Int32} (hs : s < ns) (hns : ns ≤ 12) (hna : na ≤ 6) (hn : n ≤ 16) (hw : lf_WF na ns sk sa) (hd : ∃ a, a < na ∧ sa (3 * s + 2) = nI a)
    (k : post (nI na, nI n, ph, nI nl, nI ns, gX, rc, tmp, con, (lf_ex n con so sk sa sc sv c i s (fus, sca)).2, ini, ori, (lf_ex n con so sk sa sc sv c i s (fus, sca)).1, lLo, lHi, lF, lC, xg, xj, xd, gf, gl, sl, so, sk, sa, sc, sv)) : wpX_execute__fused post (nI na, nI n, ph, nI nl, nI ns, gX, rc, tmp, con, sca, ini, ori, fus, lLo, lHi, lF, lC, xg, xj, xd, gf, gl, sl, so, sk, sa, sc, sv) (nI s) (nI i) c := by
  unfold wpX_execute__fused
  refine nm_r (lf_m3 s) ?_
  refine lx_opv_fused (by omega) hna hn (hw _ (by omega)) ?_
  dsimp only
  rw [nI_1 (3 * s)]
  refine lx_opv_fused (by omega) hna hn (hw _ (by omega)) ?_
  refine ⟨vp_in_nI (by omega) (by decide), ?_⟩
  refine lx_comp ?_
  rw [lf_a2 (3 * s), nI_clamp (show s < 2 ^ 31 by omega)]
  exact lx_store_fused (by omega) hna hn hd k
theorem lx_b27_fused {post : SX → Prop} {J8 : Int32 → Int32 → Int32 → Int32 → Int32 → Int32 → Int32 → Int32 → (Nat → Int32) → (Nat → Int32) → (Nat → Int32) → (Nat → Int32) → (Nat → Int32) → (Nat → Int32) → (Nat → Int32) → (Nat → Int32) → (Nat → Int32) → (Nat → Int32) → (Nat → Int32) → (Nat → Int32) → (Nat → Int32) → (Nat → Int32) → (Nat → Int32) → (Nat → Int32) → (Nat → Int32) → (Nat → Int32) → (Nat → Int32) → (Nat → Int32) → (Nat → Int32) → Prop} {x1 c : Int32} {i a e : Nat} {m : lf_M} (hae : a ≤ e) (he : e ≤ ns) (hns : ns ≤ 12) (hna : na ≤ 6) (hn : n ≤ 16) (hw : lf_WF na ns sk sa) (hd : ∀ s, s < ns → ∃ a, a < na ∧ sa (3 * s + 2) = nI a)
    (k : J8 (nI (i + 1)) (nI na) (nI n) ph (nI nl) (nI ns) gX rc tmp con ((lf_bd n con so sk sa sc sv c a e i m).2) ini ori ((lf_bd n con so sk sa sc sv c a e i m).1) lLo lHi lF lC xg xj xd gf gl sl so sk sa sc sv) :
    ∀ d s, a ≤ s → s + d = e → wX_runBody__fused_27 post J8 x1 (nI e) c (nI i) (d + 1) (nI s) (nI na) (nI n) ph (nI nl) (nI ns) gX rc tmp con ((lf_to (fun s m => lf_ex n con so sk sa sc sv c i s m) a s m).2) ini ori ((lf_to (fun s m => lf_ex n con so sk sa sc sv c i s m) a s m).1) lLo lHi lF lC xg xj xd gf gl sl so sk sa sc sv := by
  intro d
  induction d with
  | zero =>
    intro s h1 h2
    obtain rfl : s = e := by omega
    exact br_t (lf_rfl _) (nm_r (nI_1 i) k)
  | succ d ih =>
    intro s h1 h2
    have h := ih (s + 1) (by omega) (by omega)
    rw [lf_to_s h1] at h
    refine br_f (nI_ge (by omega) (by omega)) ?_
    refine lx_exec_fused (by omega) hns hna hn hw (hd s (by omega)) ?_
    exact nm_r (nI_1 s) h
theorem lx_b8_fused {post : SX → Prop} {c : Int32} {l e : Nat} {m : lf_M} (hl : l < nl) (hnl : nl ≤ 8) (hLP : lf_LP nl F Lo Hi lLo lHi lF lC) (hae : F l ≤ e) (he : e ≤ ns) (hns : ns ≤ 12) (hna : na ≤ 6) (hn : n ≤ 16) (hw : lf_WF na ns sk sa) (hd : ∀ s, s < ns → ∃ a, a < na ∧ sa (3 * s + 2) = nI a)
    (k : post (nI na, nI n, ph, nI nl, nI ns, gX, rc, tmp, con, (lf_lp n con so sk sa sc sv c (Lo l) (Hi l) (F l) e m).2, ini, ori, (lf_lp n con so sk sa sc sv c (Lo l) (Hi l) (F l) e m).1, lLo, lHi, lF, lC, xg, xj, xd, gf, gl, sl, so, sk, sa, sc, sv)) :
    ∀ d i, Lo l ≤ i → Hi l + 1 ≤ i + d → (i ≤ Hi l + 1 ∨ i = Lo l) → wX_runBody__fused_8 post (nI l) (nI e) c (d + 1) (nI i) (nI na) (nI n) ph (nI nl) (nI ns) gX rc tmp con ((lf_to (fun i m => lf_bd n con so sk sa sc sv c (F l) e i m) (Lo l) i m).2) ini ori ((lf_to (fun i m => lf_bd n con so sk sa sc sv c (F l) e i m) (Lo l) i m).1) lLo lHi lF lC xg xj xd gf gl sl so sk sa sc sv := by
  have hi : vp_in (nI l) 8 := vp_in_nI (by omega) (by decide)
  have ec : (nI l).toNatClampNeg = l := nI_clamp (by omega)
  obtain ⟨q1, q2, q3, q4, q5, q6⟩ := hLP l hl
  have ex : ∀ i d, Hi l < i → i ≤ 16 → (i ≤ Hi l + 1 ∨ i = Lo l) → wX_runBody__fused_8 post (nI l) (nI e) c (d + 1) (nI i) (nI na) (nI n) ph (nI nl) (nI ns) gX rc tmp con ((lf_to (fun i m => lf_bd n con so sk sa sc sv c (F l) e i m) (Lo l) i m).2) ini ori ((lf_to (fun i m => lf_bd n con so sk sa sc sv c (F l) e i m) (Lo l) i m).1) lLo lHi lF lC xg xj xd gf gl sl so sk sa sc sv := by
    intro i d h1 h2 h3
    refine ⟨hi, br_t ?_ ?_⟩
    · rw [ec, q2]; exact nI_lt h1 (by omega)
    · rw [lf_to_x h1 h3]; exact k
  intro d
  induction d with
  | zero =>
    intro i h1 h2 h3
    exact ex i 0 (by omega) (by omega) h3
  | succ d ih =>
    intro i h1 h2 h3
    by_cases hh : Hi l < i
    · exact ex i (d + 1) hh (by omega) h3
    · have h := ih (i + 1) (by omega) (by omega) (by omega)
      rw [lf_to_s h1] at h
      refine ⟨hi, br_f ?_ ⟨hi, nm_r (by rw [ec, q5]) ⟨e - F l + 1, ?_⟩⟩⟩
      · rw [ec, q2]; exact nI_nlt (by omega) (by omega)
      · have h' := lx_b27_fused (post := post) (x1 := nI l) (c := c) (i := i) (a := F l) (e := e) (m := lf_to (fun i m => lf_bd n con so sk sa sc sv c (F l) e i m) (Lo l) i m) (J8 := wX_runBody__fused_8 post (nI l) (nI e) c (d + 1)) hae he hns hna hn hw hd h (e - F l) (F l) (Nat.le_refl _) (by omega)
        rw [lf_to_e (Nat.le_refl _)] at h'
        exact h'
theorem lx_body_fused {post : SX → Prop} {c : Int32} {l e : Nat} {m : lf_M} (hl : l < nl) (hnl : nl ≤ 8) (hLP : lf_LP nl F Lo Hi lLo lHi lF lC) (hae : F l ≤ e) (he : e ≤ ns) (hns : ns ≤ 12) (hna : na ≤ 6) (hn : n ≤ 16) (hw : lf_WF na ns sk sa) (hd : ∀ s, s < ns → ∃ a, a < na ∧ sa (3 * s + 2) = nI a)
    (k : post (nI na, nI n, ph, nI nl, nI ns, gX, rc, tmp, con, (lf_lp n con so sk sa sc sv c (Lo l) (Hi l) (F l) e m).2, ini, ori, (lf_lp n con so sk sa sc sv c (Lo l) (Hi l) (F l) e m).1, lLo, lHi, lF, lC, xg, xj, xd, gf, gl, sl, so, sk, sa, sc, sv)) : wpX_runBody__fused post (nI na, nI n, ph, nI nl, nI ns, gX, rc, tmp, con, m.2, ini, ori, m.1, lLo, lHi, lF, lC, xg, xj, xd, gf, gl, sl, so, sk, sa, sc, sv) (nI l) (nI e) c := by
  have hi : vp_in (nI l) 8 := vp_in_nI (by omega) (by decide)
  have ec : (nI l).toNatClampNeg = l := nI_clamp (by omega)
  obtain ⟨q1, q2, q3, q4, q5, q6⟩ := id (hLP l hl)
  refine ⟨hi, nm_r (by rw [ec, q1]) ⟨Hi l + 1 + 1, ?_⟩⟩
  have h := lx_b8_fused hl hnl hLP hae he hns hna hn hw hd k (Hi l + 1) (Lo l) (Nat.le_refl _) (by omega) (Or.inr rfl)
  rw [lf_to_e (Nat.le_refl _)] at h
  exact h
theorem lx_load_fused {post : SX → Prop} (k : post (nI na, nI n, ph, nI nl, nI ns, gX, rc, tmp, con, sca, ini, ori, lf_cp ini 96 fus, lLo, lHi, lF, lC, xg, xj, xd, gf, gl, sl, so, sk, sa, sc, sv)) : wpX_loadInit__fused post (nI na, nI n, ph, nI nl, nI ns, gX, rc, tmp, con, sca, ini, ori, fus, lLo, lHi, lF, lC, xg, xj, xd, gf, gl, sl, so, sk, sa, sc, sv) := by
  have H : ∀ d i, i + d = 96 → wX_loadInit__fused_2 post (nI na) (nI n) ph (nI nl) (nI ns) gX rc (d + 1) (nI i) tmp con sca ini ori (lf_cp ini i fus) lLo lHi lF lC xg xj xd gf gl sl so sk sa sc sv := by
    intro d
    induction d with
    | zero =>
      intro i h
      obtain rfl : i = 96 := by omega
      exact br_t (by decide) k
    | succ d ih =>
      intro i h
      have h1 := ih (i + 1) (by omega)
      rw [← lf_cp_s] at h1
      have hi : vp_in (nI i) 96 := vp_in_nI (by omega) (by decide)
      have ec : (nI i).toNatClampNeg = i := nI_clamp (by omega)
      exact br_f (nI_ge (b := 96) (by omega) (by decide)) ⟨hi, hi, nm_r (by rw [ec]) (nm_r (nI_1 i) h1)⟩
  have h := H 96 0 rfl
  rw [lf_cp0] at h
  exact ⟨97, h⟩

end LFV
