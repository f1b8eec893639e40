section LFY
variable {na n nl ns : Nat} {ph gX gY rc : Int32} {tmp con sca ini ori fus lLo lHi lF lC xg xj xd gf gl sl so sk sa sc sv yg yj yd dA dC dO kd ar co va : Nat → Int32} {F L Lo Hi G gp : Nat → Nat}
/-! mode 0 -/
theorem ly_rd21_0 {post : Int32 → Prop} {a : Nat} {x : Int32} (ha : a < na) (hna : na ≤ 6) (hn : n ≤ 16) (hc : ¬ (¬ (0 : Int32) = 0 ∧ ¬ con (nI a).toNatClampNeg = 0)) (k : post (lf_rd n con 0 (ori, sca) (nI a) x)) : wY_readM_21 post 0 (nI a) x (nI na) (nI n) (nI nl) (nI ns) ph gY rc tmp con lLo lHi lF lC yg yj yd sl so dA dC dO kd ar co va ini ori fus sca := by
  unfold lf_rd at k
  rw [if_neg hc] at k
  rcases lf_rng hn x with h | ⟨j, hj, rfl⟩
  · rw [if_pos h] at k
    exact br_c (fun _ => k) (fun h0 => br_f (h.resolve_left h0) k)
  · rw [if_neg (lf_rng_n hn hj)] at k
    have hi : vp_in (nI a * 16 + nI j) 96 := by rw [lf_16]; exact vp_in_nI (by omega) (by decide)
    exact br_f (nI_pos (by omega)) (br_t (nI_lt hj (by omega)) (br_t rfl ⟨hi, k⟩))
theorem ly_read_0 {post : Int32 → Prop} {a : Nat} {x : Int32} (ha : a < na) (hna : na ≤ 6) (hn : n ≤ 16) (k : post (lf_rd n con 0 (ori, sca) (nI a) x)) : wpY_readM post (nI na, nI n, nI nl, nI ns, ph, gY, rc, tmp, con, lLo, lHi, lF, lC, yg, yj, yd, sl, so, dA, dC, dO, kd, ar, co, va, ini, ori, fus, sca) 0 (nI a) x := by
  have hv : vp_in (nI a) 6 := vp_in_nI (by omega) (by decide)
  exact br_f lf_01 (ly_rd21_0 ha hna hn (fun q => q.1 rfl) k)
theorem ly_opv_0 {post : Int32 → Prop} {s w : Nat} {i : Int32} (hs : s < 12) (hw2 : w < 2) (hna : na ≤ 6) (hn : n ≤ 16) (hw : kd (2 * s + w) = 0 ∨ kd (2 * s + w) = 1 ∨ (kd (2 * s + w) = 2 ∧ ∃ a, a < na ∧ ar (2 * s + w) = nI a))
    (k : post (lf_op n con 0 (ori, sca) (kd (2 * s + w)) (ar (2 * s + w)) (co (2 * s + w)) (va (2 * s + w)) i)) : wpY_operand post (nI na, nI n, nI nl, nI ns, ph, gY, rc, tmp, con, lLo, lHi, lF, lC, yg, yj, yd, sl, so, dA, dC, dO, kd, ar, co, va, ini, ori, fus, sca) (nI s) (nI w) i 0 := by
  have hi : vp_in (nI (2 * s + w)) 24 := vp_in_nI (by omega) (by decide)
  have e : (nI (2 * s + w)).toNatClampNeg = 2 * s + w := nI_clamp (by omega)
  unfold lf_op at k
  refine nm_r (e' := nI (2 * s + w)) (by rw [lf_m2, nI_add]) ⟨hi, br_c (fun h => ⟨hi, ?_⟩) (fun h => ⟨hi, br_c (fun h1 => ⟨hi, ?_⟩) (fun h1 => ⟨hi, hi, hi, ?_⟩)⟩)⟩
  · rw [e] at h ⊢
    rw [if_pos h] at k; exact k
  · rw [e] at h h1 ⊢
    rw [if_neg h, if_pos h1] at k; exact k
  · rw [e] at h h1 ⊢
    rw [if_neg h, if_neg h1] at k
    obtain ⟨a, ha, ea⟩ : ∃ a, a < na ∧ ar (2 * s + w) = nI a := hw.elim (fun q => absurd q h) (fun q => q.elim (fun q => absurd q h1) (fun q => q.2))
    rw [ea] at k ⊢
    exact ly_read_0 ha hna hn k
theorem ly_st95_0 {post : SY → Prop} {s a : Nat} {i r : Int32} (hs : s < 12) (ha : a < na) (hna : na ≤ 6) (hn : n ≤ 16) (hc : ¬ (¬ (0 : Int32) = 0 ∧ ¬ con (nI a).toNatClampNeg = 0))
    (k : post (nI na, nI n, nI nl, nI ns, ph, gY, rc, tmp, con, lLo, lHi, lF, lC, yg, yj, yd, sl, so, dA, dC, dO, kd, ar, co, va, ini, (lf_sto n con 0 (ori, sca) (nI a) (dC s * i + dO s) r).1, fus, (lf_sto n con 0 (ori, sca) (nI a) (dC s * i + dO s) r).2)) : wY_execStmt_95 post (nI s) i 0 r (nI a) (nI na) (nI n) (nI nl) (nI ns) ph gY rc tmp con lLo lHi lF lC yg yj yd sl so dA dC dO kd ar co va ini ori fus sca := by
  have hi : vp_in (nI s) 12 := vp_in_nI hs (by decide)
  have e : (nI s).toNatClampNeg = s := nI_clamp (by omega)
  unfold lf_sto at k
  rw [if_neg hc] at k
  refine ⟨hi, hi, nm_r (e' := dC s * i + dO s) (by rw [e]) ?_⟩
  rcases lf_rng hn (dC s * i + dO s) with h | ⟨j, hj, ej⟩
  · rw [if_pos h] at k
    exact br_c (fun _ => k) (fun h0 => br_f (h.resolve_left h0) k)
  · rw [ej, if_neg (lf_rng_n hn hj)] at k
    rw [ej]
    have hi : vp_in (nI a * 16 + nI j) 96 := by rw [lf_16]; exact vp_in_nI (by omega) (by decide)
    exact br_f (nI_pos (by omega)) (br_t (nI_lt hj (by omega)) (br_t rfl ⟨hi, nm_e k⟩))
theorem ly_st60_0 {post : SY → Prop} {s : Nat} {i r : Int32} (hs : s < 12) (ha : ∃ a, a < na ∧ dA s = nI a) (hna : na ≤ 6) (hn : n ≤ 16)
    (k : post (nI na, nI n, nI nl, nI ns, ph, gY, rc, tmp, con, lLo, lHi, lF, lC, yg, yj, yd, sl, so, dA, dC, dO, kd, ar, co, va, ini, (lf_sto n con 0 (ori, sca) (dA s) (dC s * i + dO s) r).1, fus, (lf_sto n con 0 (ori, sca) (dA s) (dC s * i + dO s) r).2)) : wY_execStmt_60 post (nI s) i 0 r (nI na) (nI n) (nI nl) (nI ns) ph gY rc tmp con lLo lHi lF lC yg yj yd sl so dA dC dO kd ar co va ini ori fus sca := by
  have hi : vp_in (nI s) 12 := vp_in_nI hs (by decide)
  have e : (nI s).toNatClampNeg = s := nI_clamp (by omega)
  obtain ⟨a, ha, ea⟩ := ha
  rw [ea] at k
  have hv : vp_in (nI a) 6 := vp_in_nI (by omega) (by decide)
  refine ⟨hi, nm_r (e' := nI a) (by rw [e, ea]) (br_f lf_01 ?_)⟩
  exact ly_st95_0 hs ha hna hn (fun q => q.1 rfl) k
theorem ly_exec_0 {post : SY → Prop} {s i : Nat} (hs : s < ns) (hns : ns ≤ 12) (hna : na ≤ 6) (hn : n ≤ 16) (hSR : lf_SR ns sk sa sc sv kd ar co va dA dC dO) (hw : lf_WF na ns sk sa)
    (k : post (nI na, nI n, nI nl, nI ns, ph, gY, rc, tmp, con, lLo, lHi, lF, lC, yg, yj, yd, sl, so, dA, dC, dO, kd, ar, co, va, ini, (lf_ex n con so sk sa sc sv 0 i s (ori, sca)).1, fus, (lf_ex n con so sk sa sc sv 0 i s (ori, sca)).2)) : wpY_execStmt post (nI na, nI n, nI nl, nI ns, ph, gY, rc, tmp, con, lLo, lHi, lF, lC, yg, yj, yd, sl, so, dA, dC, dO, kd, ar, co, va, ini, ori, fus, sca) (nI s) (nI i) 0 := by
  have hi : vp_in (nI s) 12 := vp_in_nI (by omega) (by decide)
  have e : (nI s).toNatClampNeg = s := nI_clamp (by omega)
  have hd := lf_dst hSR hw s hs
  obtain ⟨⟨a1, a2, a3, a4⟩, ⟨b1, b2, b3, b4⟩, ⟨c1, c2, c3, c4⟩⟩ := hSR s hs
  have w0 := hw (3 * s) (by omega)
  have w1 := hw (3 * s + 1) (by omega)
  rw [a1, a2] at w0
  rw [b1, b2] at w1
  rw [c2] at hd
  unfold lf_ex at k
  rw [a1, a2, a3, a4, b1, b2, b3, b4, c2, c3, c4] at k
  unfold wpY_execStmt
  refine ly_opv_0 (w := 0) (by omega) (by decide) hna hn w0 ?_
  refine ly_opv_0 (w := 1) (by omega) (by decide) hna hn w1 ?_
  unfold lf_al at k
  refine ⟨hi, br_c (fun h => ?_) (fun h => ⟨hi, br_c (fun h2 => ?_) (fun h2 => ?_)⟩)⟩
  · rw [e] at h
    rw [if_pos h] at k
    exact ly_st60_0 (by omega) hd hna hn k
  · rw [e] at h h2
    rw [if_neg h, if_pos h2] at k
    exact ly_st60_0 (by omega) hd hna hn k
  · rw [e] at h h2
    rw [if_neg h, if_neg h2] at k
    exact ly_st60_0 (by omega) hd hna hn k
theorem ly_loop_0 {post : SY → Prop} {l i : Nat} {m : lf_M} (hB : lf_B na n nl ns F L Lo Hi lLo lHi lF lC sl sk sa sc sv kd ar co va dA dC dO) (hl : l < nl)
    (k : post (nI na, nI n, nI nl, nI ns, ph, gY, rc, tmp, con, lLo, lHi, lF, lC, yg, yj, yd, sl, so, dA, dC, dO, kd, ar, co, va, ini, (lf_bd n con so sk sa sc sv 0 (F l) (F (l + 1)) i m).1, fus, (lf_bd n con so sk sa sc sv 0 (F l) (F (l + 1)) i m).2)) : wpY_execLoopIter post (nI na, nI n, nI nl, nI ns, ph, gY, rc, tmp, con, lLo, lHi, lF, lC, yg, yj, yd, sl, so, dA, dC, dO, kd, ar, co, va, ini, m.1, fus, m.2) (nI l) (nI i) 0 := by
  obtain ⟨⟨_, hna, _, hn, hnl, hns⟩, hPT, hLP, hsl, hSR, hw⟩ := hB
  have H : ∀ d s, s + d = ns → wY_execLoopIter_3 post (nI l) (nI i) 0 (d + 1) (nI s) (nI na) (nI n) (nI nl) (nI ns) ph gY rc tmp con lLo lHi lF lC yg yj yd sl so dA dC dO kd ar co va ini ((lf_to (fun s m => lf_ex n con so sk sa sc sv 0 i s m) (F l) (min s (F (l + 1))) m).1) fus ((lf_to (fun s m => lf_ex n con so sk sa sc sv 0 i s m) (F l) (min s (F (l + 1))) m).2) := by
    intro d
    induction d with
    | zero =>
      intro s h
      obtain rfl : s = ns := by omega
      refine br_t (lf_rfl _) ?_
      rw [lf_fil_e (lf_PT_le hPT (by omega))]
      exact k
    | succ d ih =>
      intro s h
      have h1 := ih (s + 1) (by omega)
      have ec : (nI s).toNatClampNeg = s := nI_clamp (by omega)
      have hL := (hPT.2.2.2 s (by omega)).1
      refine br_f (nI_ge (by omega) (by omega)) ⟨vp_in_nI (by omega) (by decide), br_c (fun z => ?_) (fun z => ?_)⟩
      · rw [ec, hsl s (by omega), nI_eq (by omega) (by omega), lf_PT_iff hPT (by omega) hl] at z
        rw [lf_fil_y z.1 z.2] at h1
        refine ly_exec_0 (by omega) hns hna hn hSR hw ?_
        exact nm_r (nI_1 s) h1
      · rw [ec, hsl s (by omega), nI_eq (by omega) (by omega), lf_PT_iff hPT (by omega) hl] at z
        rw [lf_fil_n z] at h1
        exact nm_r (nI_1 s) h1
  have h := H ns 0 (by omega)
  rw [lf_fil_0] at h
  exact ⟨ns + 1, h⟩

/-! mode 1 -/
theorem ly_rd21_1 {post : Int32 → Prop} {a : Nat} {x : Int32} (ha : a < na) (hna : na ≤ 6) (hn : n ≤ 16) (hc : ¬ (¬ (1 : Int32) = 0 ∧ ¬ con (nI a).toNatClampNeg = 0)) (k : post (lf_rd n con 1 (fus, sca) (nI a) x)) : wY_readM_21 post 1 (nI a) x (nI na) (nI n) (nI nl) (nI ns) ph gY rc tmp con lLo lHi lF lC yg yj yd sl so dA dC dO kd ar co va ini ori fus sca := by
  unfold lf_rd at k
  rw [if_neg hc] at k
  rcases lf_rng hn x with h | ⟨j, hj, rfl⟩
  · rw [if_pos h] at k
    exact br_c (fun _ => k) (fun h0 => br_f (h.resolve_left h0) k)
  · rw [if_neg (lf_rng_n hn hj)] at k
    have hi : vp_in (nI a * 16 + nI j) 96 := by rw [lf_16]; exact vp_in_nI (by omega) (by decide)
    exact br_f (nI_pos (by omega)) (br_t (nI_lt hj (by omega)) (br_f lf_10 ⟨hi, k⟩))
theorem ly_read_1 {post : Int32 → Prop} {a : Nat} {x : Int32} (ha : a < na) (hna : na ≤ 6) (hn : n ≤ 16) (k : post (lf_rd n con 1 (fus, sca) (nI a) x)) : wpY_readM post (nI na, nI n, nI nl, nI ns, ph, gY, rc, tmp, con, lLo, lHi, lF, lC, yg, yj, yd, sl, so, dA, dC, dO, kd, ar, co, va, ini, ori, fus, sca) 1 (nI a) x := by
  have hv : vp_in (nI a) 6 := vp_in_nI (by omega) (by decide)
  refine br_t rfl ⟨hv, br_c (fun hd => ly_rd21_1 ha hna hn (fun q => q.2 hd) k) (fun hd => ⟨hv, ?_⟩)⟩
  unfold lf_rd at k
  rw [if_pos ⟨lf_10, hd⟩] at k
  exact k
theorem ly_opv_1 {post : Int32 → Prop} {s w : Nat} {i : Int32} (hs : s < 12) (hw2 : w < 2) (hna : na ≤ 6) (hn : n ≤ 16) (hw : kd (2 * s + w) = 0 ∨ kd (2 * s + w) = 1 ∨ (kd (2 * s + w) = 2 ∧ ∃ a, a < na ∧ ar (2 * s + w) = nI a))
    (k : post (lf_op n con 1 (fus, sca) (kd (2 * s + w)) (ar (2 * s + w)) (co (2 * s + w)) (va (2 * s + w)) i)) : wpY_operand post (nI na, nI n, nI nl, nI ns, ph, gY, rc, tmp, con, lLo, lHi, lF, lC, yg, yj, yd, sl, so, dA, dC, dO, kd, ar, co, va, ini, ori, fus, sca) (nI s) (nI w) i 1 := by
  have hi : vp_in (nI (2 * s + w)) 24 := vp_in_nI (by omega) (by decide)
  have e : (nI (2 * s + w)).toNatClampNeg = 2 * s + w := nI_clamp (by omega)
  unfold lf_op at k
  refine nm_r (e' := nI (2 * s + w)) (by rw [lf_m2, nI_add]) ⟨hi, br_c (fun h => ⟨hi, ?_⟩) (fun h => ⟨hi, br_c (fun h1 => ⟨hi, ?_⟩) (fun h1 => ⟨hi, hi, hi, ?_⟩)⟩)⟩
  · rw [e] at h ⊢
    rw [if_pos h] at k; exact k
  · rw [e] at h h1 ⊢
    rw [if_neg h, if_pos h1] at k; exact k
  · rw [e] at h h1 ⊢
    rw [if_neg h, if_neg h1] at k
    obtain ⟨a, ha, ea⟩ : ∃ a, a < na ∧ ar (2 * s + w) = nI a := hw.elim (fun q => absurd q h) (fun q => q.elim (fun q => absurd q h1) (fun q => q.2))
    rw [ea] at k ⊢
    exact ly_read_1 ha hna hn k
theorem ly_st95_1 {post : SY → Prop} {s a : Nat} {i r : Int32} (hs : s < 12) (ha : a < na) (hna : na ≤ 6) (hn : n ≤ 16) (hc : ¬ (¬ (1 : Int32) = 0 ∧ ¬ con (nI a).toNatClampNeg = 0))
    (k : post (nI na, nI n, nI nl, nI ns, ph, gY, rc, tmp, con, lLo, lHi, lF, lC, yg, yj, yd, sl, so, dA, dC, dO, kd, ar, co, va, ini, ori, (lf_sto n con 1 (fus, sca) (nI a) (dC s * i + dO s) r).1, (lf_sto n con 1 (fus, sca) (nI a) (dC s * i + dO s) r).2)) : wY_execStmt_95 post (nI s) i 1 r (nI a) (nI na) (nI n) (nI nl) (nI ns) ph gY rc tmp con lLo lHi lF lC yg yj yd sl so dA dC dO kd ar co va ini ori fus sca := by
  have hi : vp_in (nI s) 12 := vp_in_nI hs (by decide)
  have e : (nI s).toNatClampNeg = s := nI_clamp (by omega)
  unfold lf_sto at k
  rw [if_neg hc] at k
  refine ⟨hi, hi, nm_r (e' := dC s * i + dO s) (by rw [e]) ?_⟩
  rcases lf_rng hn (dC s * i + dO s) with h | ⟨j, hj, ej⟩
  · rw [if_pos h] at k
    exact br_c (fun _ => k) (fun h0 => br_f (h.resolve_left h0) k)
  · rw [ej, if_neg (lf_rng_n hn hj)] at k
    rw [ej]
    have hi : vp_in (nI a * 16 + nI j) 96 := by rw [lf_16]; exact vp_in_nI (by omega) (by decide)
    exact br_f (nI_pos (by omega)) (br_t (nI_lt hj (by omega)) (br_f lf_10 ⟨hi, nm_e k⟩))
theorem ly_st60_1 {post : SY → Prop} {s : Nat} {i r : Int32} (hs : s < 12) (ha : ∃ a, a < na ∧ dA s = nI a) (hna : na ≤ 6) (hn : n ≤ 16)
    (k : post (nI na, nI n, nI nl, nI ns, ph, gY, rc, tmp, con, lLo, lHi, lF, lC, yg, yj, yd, sl, so, dA, dC, dO, kd, ar, co, va, ini, ori, (lf_sto n con 1 (fus, sca) (dA s) (dC s * i + dO s) r).1, (lf_sto n con 1 (fus, sca) (dA s) (dC s * i + dO s) r).2)) : wY_execStmt_60 post (nI s) i 1 r (nI na) (nI n) (nI nl) (nI ns) ph gY rc tmp con lLo lHi lF lC yg yj yd sl so dA dC dO kd ar co va ini ori fus sca := by
  have hi : vp_in (nI s) 12 := vp_in_nI hs (by decide)
  have e : (nI s).toNatClampNeg = s := nI_clamp (by omega)
  obtain ⟨a, ha, ea⟩ := ha
  rw [ea] at k
  have hv : vp_in (nI a) 6 := vp_in_nI (by omega) (by decide)
  refine ⟨hi, nm_r (e' := nI a) (by rw [e, ea]) (br_t rfl ⟨hv, br_c (fun hd => ly_st95_1 hs ha hna hn (fun q => q.2 hd) k) (fun hd => ⟨hv, nm_e ?_⟩)⟩)⟩
  unfold lf_sto at k
  rw [if_pos ⟨lf_10, hd⟩] at k
  exact k
theorem ly_exec_1 {post : SY → Prop} {s i : Nat} (hs : s < ns) (hns : ns ≤ 12) (hna : na ≤ 6) (hn : n ≤ 16) (hSR : lf_SR ns sk sa sc sv kd ar co va dA dC dO) (hw : lf_WF na ns sk sa)
    (k : post (nI na, nI n, nI nl, nI ns, ph, gY, rc, tmp, con, lLo, lHi, lF, lC, yg, yj, yd, sl, so, dA, dC, dO, kd, ar, co, va, ini, ori, (lf_ex n con so sk sa sc sv 1 i s (fus, sca)).1, (lf_ex n con so sk sa sc sv 1 i s (fus, sca)).2)) : wpY_execStmt post (nI na, nI n, nI nl, nI ns, ph, gY, rc, tmp, con, lLo, lHi, lF, lC, yg, yj, yd, sl, so, dA, dC, dO, kd, ar, co, va, ini, ori, fus, sca) (nI s) (nI i) 1 := by
  have hi : vp_in (nI s) 12 := vp_in_nI (by omega) (by decide)
  have e : (nI s).toNatClampNeg = s := nI_clamp (by omega)
  have hd := lf_dst hSR hw s hs
  obtain ⟨⟨a1, a2, a3, a4⟩, ⟨b1, b2, b3, b4⟩, ⟨c1, c2, c3, c4⟩⟩ := hSR s hs
  have w0 := hw (3 * s) (by omega)
  have w1 := hw (3 * s + 1) (by omega)
  rw [a1, a2] at w0
  rw [b1, b2] at w1
  rw [c2] at hd
  unfold lf_ex at k
  rw [a1, a2, a3, a4, b1, b2, b3, b4, c2, c3, c4] at k
  unfold wpY_execStmt
  refine ly_opv_1 (w := 0) (by omega) (by decide) hna hn w0 ?_
  refine ly_opv_1 (w := 1) (by omega) (by decide) hna hn w1 ?_
  unfold lf_al at k
  refine ⟨hi, br_c (fun h => ?_) (fun h => ⟨hi, br_c (fun h2 => ?_) (fun h2 => ?_)⟩)⟩
  · rw [e] at h
    rw [if_pos h] at k
    exact ly_st60_1 (by omega) hd hna hn k
  · rw [e] at h h2
    rw [if_neg h, if_pos h2] at k
    exact ly_st60_1 (by omega) hd hna hn k
  · rw [e] at h h2
    rw [if_neg h, if_neg h2] at k
    exact ly_st60_1 (by omega) hd hna hn k
theorem ly_loop_1 {post : SY → Prop} {l i : Nat} {m : lf_M} (hB : lf_B na n nl ns F L Lo Hi lLo lHi lF lC sl sk sa sc sv kd ar co va dA dC dO) (hl : l < nl)
    (k : post (nI na, nI n, nI nl, nI ns, ph, gY, rc, tmp, con, lLo, lHi, lF, lC, yg, yj, yd, sl, so, dA, dC, dO, kd, ar, co, va, ini, ori, (lf_bd n con so sk sa sc sv 1 (F l) (F (l + 1)) i m).1, (lf_bd n con so sk sa sc sv 1 (F l) (F (l + 1)) i m).2)) : wpY_execLoopIter post (nI na, nI n, nI nl, nI ns, ph, gY, rc, tmp, con, lLo, lHi, lF, lC, yg, yj, yd, sl, so, dA, dC, dO, kd, ar, co, va, ini, ori, m.1, m.2) (nI l) (nI i) 1 := by
  obtain ⟨⟨_, hna, _, hn, hnl, hns⟩, hPT, hLP, hsl, hSR, hw⟩ := hB
  have H : ∀ d s, s + d = ns → wY_execLoopIter_3 post (nI l) (nI i) 1 (d + 1) (nI s) (nI na) (nI n) (nI nl) (nI ns) ph gY rc tmp con lLo lHi lF lC yg yj yd sl so dA dC dO kd ar co va ini ori ((lf_to (fun s m => lf_ex n con so sk sa sc sv 1 i s m) (F l) (min s (F (l + 1))) m).1) ((lf_to (fun s m => lf_ex n con so sk sa sc sv 1 i s m) (F l) (min s (F (l + 1))) m).2) := by
    intro d
    induction d with
    | zero =>
      intro s h
      obtain rfl : s = ns := by omega
      refine br_t (lf_rfl _) ?_
      rw [lf_fil_e (lf_PT_le hPT (by omega))]
      exact k
    | succ d ih =>
      intro s h
      have h1 := ih (s + 1) (by omega)
      have ec : (nI s).toNatClampNeg = s := nI_clamp (by omega)
      have hL := (hPT.2.2.2 s (by omega)).1
      refine br_f (nI_ge (by omega) (by omega)) ⟨vp_in_nI (by omega) (by decide), br_c (fun z => ?_) (fun z => ?_)⟩
      · rw [ec, hsl s (by omega), nI_eq (by omega) (by omega), lf_PT_iff hPT (by omega) hl] at z
        rw [lf_fil_y z.1 z.2] at h1
        refine ly_exec_1 (by omega) hns hna hn hSR hw ?_
        exact nm_r (nI_1 s) h1
      · rw [ec, hsl s (by omega), nI_eq (by omega) (by omega), lf_PT_iff hPT (by omega) hl] at z
        rw [lf_fil_n z] at h1
        exact nm_r (nI_1 s) h1
  have h := H ns 0 (by omega)
  rw [lf_fil_0] at h
  exact ⟨ns + 1, h⟩

end LFY
