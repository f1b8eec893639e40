section LFT
variable {na n nl ns : Nat} {ph gX gY rc : Int32} {tmp con sca ini ori fus lLo lHi lF lC xg xj xd gf gl sl so sk sa sc sv yg yj yd dA dC dO kd ar co va : Nat → Int32} {F L Lo Hi G gp : Nat → Nat}
/-! operands -/
def lf_okO (na ns : Nat) (ph v a c o : Int32) : Prop := ph = 0 ∧ 0 < ns ∧ (∃ w, w < 2 ∧ v = nI w) ∧ lf_ok na a c o
theorem lf_w2 {v : Int32} (h : ¬ v < 0) (h2 : v ≤ 1) : ∃ w, w < 2 ∧ v = nI w := by
  obtain ⟨a, ha, e⟩ := lf_15 (m := 1) (by decide) h (Int32.not_lt.mpr h2)
  exact ⟨a, by omega, e⟩
theorem lf_ne12 {m : Nat} (h : ¬ nI m = 0) : 0 < m := by
  by_cases z : m = 0
  · subst z; exact absurd rfl h
  · omega
theorem lx_setArr_r {post : Int32 → SX → Prop} {v a c o : Int32} (hn : na ≤ 6) (hns : ns ≤ 12) (h : ¬ lf_okO na ns ph v a c o) (k : post 0 (nI na, nI n, ph, nI nl, nI ns, gX, rc, tmp, con, sca, ini, ori, fus, lLo, lHi, lF, lC, xg, xj, xd, gf, gl, sl, so, sk, sa, sc, sv)) : wpX_setArrayOperand post (nI na, nI n, ph, nI nl, nI ns, gX, rc, tmp, con, sca, ini, ori, fus, lLo, lHi, lF, lC, xg, xj, xd, gf, gl, sl, so, sk, sa, sc, sv) v a c o := by
  unfold wpX_setArrayOperand
  exact lx_can hns (fun h0 h1 h2 => br_f lf_10 (lx_ref hn (fun h3 => absurd ⟨h0, h1, h2, h3⟩ h) (br_t rfl k))) (br_t rfl k)
theorem ly_setArr_r {post : Int32 → SY → Prop} {v a c o : Int32} (hn : na ≤ 6) (hns : ns ≤ 12) (h : ¬ lf_okO na ns ph v a c o) (k : post 0 (nI na, nI n, nI nl, nI ns, ph, gY, rc, tmp, con, lLo, lHi, lF, lC, yg, yj, yd, sl, so, dA, dC, dO, kd, ar, co, va, ini, ori, fus, sca)) : wpY_setArrayOperand post (nI na, nI n, nI nl, nI ns, ph, gY, rc, tmp, con, lLo, lHi, lF, lC, yg, yj, yd, sl, so, dA, dC, dO, kd, ar, co, va, ini, ori, fus, sca) v a c o :=
  br_c (fun h0 => br_c (fun _ => k) (fun h1 => br_c (fun _ => k) (fun h2 => br_c (fun h3 => br_c (fun _ => k) (fun h4 => br_c (fun _ => k) (fun h5 => br_c (fun _ => k) (fun h6 => br_c (fun _ => k) (fun h7 => br_c (fun _ => k) (fun h8 => br_c (fun h9 => absurd ⟨h0, lf_ne12 h1, lf_w2 h2 h3, ly_rng' (by omega) h4 h5, h6, h7, h8, Int32.not_lt.mpr h9⟩ h) (fun _ => k))))))) (fun _ => k)))) (fun _ => k)
theorem lf_B_set {w : Nat} {k a c v : Int32} (hw : w < 2) (hk : k = 0 ∨ k = 1 ∨ (k = 2 ∧ ∃ b, b < na ∧ a = nI b)) (hB : lf_B na n nl ns F L Lo Hi lLo lHi lF lC sl sk sa sc sv kd ar co va dA dC dO) :
    lf_B na n nl ns F L Lo Hi lLo lHi lF lC sl (upd sk (3 * (ns - 1) + w) k) (upd sa (3 * (ns - 1) + w) a) (upd sc (3 * (ns - 1) + w) c) (upd sv (3 * (ns - 1) + w) v) (upd kd (2 * (ns - 1) + w) k) (upd ar (2 * (ns - 1) + w) a) (upd co (2 * (ns - 1) + w) c) (upd va (2 * (ns - 1) + w) v) dA dC dO :=
  ⟨hB.1, hB.2.1, hB.2.2.1, hB.2.2.2.1, lf_SR_set hw hB.2.2.2.2.1, lf_WF_set hk hB.2.2.2.2.2⟩
theorem lf_s3 {m w : Nat} (h : 0 < m) : (nI m - 1) * 3 + nI w = nI (3 * (m - 1) + w) := by rw [lf_p1 h, lf_m3, nI_add]
theorem lf_s2 {m w : Nat} (h : 0 < m) : (nI m - 1) * 2 + nI w = nI (2 * (m - 1) + w) := by rw [lf_p1 h, lf_m2, nI_add]
theorem lf_le1 {w : Nat} (h : w < 2) : nI w ≤ 1 := nI_le (b := 1) (by omega) (by decide)
theorem lz_setArr {k : Nat} (hB : lf_B na n nl ns F L Lo Hi lLo lHi lF lC sl sk sa sc sv kd ar co va dA dC dO) (hs : ∀ j, na ≤ j → sca j = 0) (hP : lf_P0 nl ph gX gY xg xj xd ∨ lf_P1 nl ph gX gY xg xj xd gf gl yg yj yd) (v a c o : Int32) :
    wpX_setArrayOperand (fun r u' => wpY_setArrayOperand (fun r' v' => r' = r ∧ i_Rel (k + 5) u' v') (nI na, nI n, nI nl, nI ns, ph, gY, rc, tmp, con, lLo, lHi, lF, lC, yg, yj, yd, sl, so, dA, dC, dO, kd, ar, co, va, ini, ori, fus, sca) v a c o) (nI na, nI n, ph, nI nl, nI ns, gX, rc, tmp, con, sca, ini, ori, fus, lLo, lHi, lF, lC, xg, xj, xd, gf, gl, sl, so, sk, sa, sc, sv) v a c o := by
  have hn : na ≤ 6 := hB.1.2.1
  have hns : ns ≤ 12 := hB.1.2.2.2.2.2
  by_cases h : lf_okO na ns ph v a c o
  · obtain ⟨h0, h1, ⟨w, hw, rfl⟩, h3⟩ := h
    obtain ⟨⟨b, hb, ea⟩, h6, h7, h8, h9⟩ := id h3
    have ix : vp_in (nI (2 * (ns - 1) + w)) 24 := vp_in_nI (by omega) (by decide)
    have ex : (nI (2 * (ns - 1) + w)).toNatClampNeg = 2 * (ns - 1) + w := nI_clamp (by omega)
    unfold wpX_setArrayOperand
    refine lx_can1 hns h0 h1 hw (br_f lf_10 (lx_ref1 hn h3 (br_f lf_10 (nm_r (lf_s3 h1) ?_))))
    refine lx_fill (by omega) ?_
    refine br_t h0 (br_f (nI_ne0 h1 (by omega)) (br_f (nI_pos (by omega)) (br_t (lf_le1 hw) ?_)))
    subst ea
    refine br_f (nI_pos (by omega)) (br_f (nI_ge hb (by omega)) (br_f h6 (br_f h7 (br_f h8 (br_t (Int32.not_lt.mp h9) (nm_r (lf_s2 h1) ?_))))))
    refine ⟨ix, nm_r (by rw [ex]) ⟨ix, nm_r (by rw [ex]) ⟨ix, nm_r (by rw [ex]) ⟨ix, nm_r (by rw [ex]) ⟨rfl, ?_⟩⟩⟩⟩⟩
    exact lf_mk (lf_B_set hw (Or.inr (Or.inr ⟨rfl, b, hb, rfl⟩)) hB) hs hP
  · exact lx_setArr_r hn hns h (ly_setArr_r hn hns h ⟨rfl, lf_mk hB hs hP⟩)
theorem i_vc_setArrayOperand {k : Nat} {u : SX} {v : SY} (I : i_Rel k u v) (hk : k + 5 ≤ 2562) (v1 : Int32) (v2 : Int32) (v3 : Int32) (v4 : Int32) : wpX_setArrayOperand (fun r u' => wpY_setArrayOperand (fun r' v' => r' = r ∧ i_Rel (k + 5) u' v') v v1 v2 v3 v4) u v1 v2 v3 v4 := by
  obtain ⟨na, n, nl, ns, F, L, Lo, Hi, ph, gX, gY, rc, tmp, con, sca, ini, ori, fus, lLo, lHi, lF, lC, xg, xj, xd, gf, gl, sl, so, sk, sa, sc, sv, yg, yj, yd, dA, dC, dO, kd, ar, co, va, rfl, rfl, hB, hs, hP⟩ := I
  exact lz_setArr hB hs hP v1 v2 v3 v4

/-! values -/
def lf_okV (ns : Nat) (ph v k : Int32) : Prop := ph = 0 ∧ 0 < ns ∧ (∃ w, w < 2 ∧ v = nI w) ∧ (k = 0 ∨ k = 1)
theorem lf_k01 {k : Int32} (h : ¬ k < 0) (h2 : ¬ 1 < k) : k = 0 ∨ k = 1 := by
  obtain ⟨w, hw, rfl⟩ := lf_15 (m := 1) (by decide) h h2
  rcases (show w = 0 ∨ w = 1 by omega) with e | e
  · subst e; exact Or.inl rfl
  · subst e; exact Or.inr rfl
theorem lx_setVal_r {post : Int32 → SX → Prop} {v a c : Int32} (hns : ns ≤ 12) (h : ¬ lf_okV ns ph v a) (k : post 0 (nI na, nI n, ph, nI nl, nI ns, gX, rc, tmp, con, sca, ini, ori, fus, lLo, lHi, lF, lC, xg, xj, xd, gf, gl, sl, so, sk, sa, sc, sv)) : wpX_setValueOperand post (nI na, nI n, ph, nI nl, nI ns, gX, rc, tmp, con, sca, ini, ori, fus, lLo, lHi, lF, lC, xg, xj, xd, gf, gl, sl, so, sk, sa, sc, sv) v a c := by
  unfold wpX_setValueOperand
  exact lx_can hns (fun h0 h1 h2 => br_f lf_10 (lx_with (fun h3 h4 => absurd ⟨h0, h1, h2, lf_k01 h3 h4⟩ h) (br_t rfl k))) (br_t rfl k)
theorem ly_setVal_r {post : Int32 → SY → Prop} {v a c : Int32} (hns : ns ≤ 12) (h : ¬ lf_okV ns ph v a) (k : post 0 (nI na, nI n, nI nl, nI ns, ph, gY, rc, tmp, con, lLo, lHi, lF, lC, yg, yj, yd, sl, so, dA, dC, dO, kd, ar, co, va, ini, ori, fus, sca)) : wpY_setValueOperand post (nI na, nI n, nI nl, nI ns, ph, gY, rc, tmp, con, lLo, lHi, lF, lC, yg, yj, yd, sl, so, dA, dC, dO, kd, ar, co, va, ini, ori, fus, sca) v a c :=
  br_c (fun h0 => br_c (fun _ => k) (fun h1 => br_c (fun _ => k) (fun h2 => br_c (fun h3 => br_c (fun h4 => absurd ⟨h0, lf_ne12 h1, lf_w2 h2 h3, Or.inl h4⟩ h) (fun _ => br_c (fun h4 => absurd ⟨h0, lf_ne12 h1, lf_w2 h2 h3, Or.inr h4⟩ h) (fun _ => k))) (fun _ => k)))) (fun _ => k)
theorem ly_setVal36 {post : Int32 → SY → Prop} {w : Nat} {a c : Int32} (h1 : 0 < ns) (hns : ns ≤ 12) (hw : w < 2) (k : post 1 (nI na, nI n, nI nl, nI ns, ph, gY, rc, tmp, con, lLo, lHi, lF, lC, yg, yj, yd, sl, so, dA, dC, dO, upd kd (2 * (ns - 1) + w) a, upd ar (2 * (ns - 1) + w) (-1), upd co (2 * (ns - 1) + w) 0, upd va (2 * (ns - 1) + w) c, ini, ori, fus, sca)) : wY_setValueOperand_36 post (nI w) a c (nI na) (nI n) (nI nl) (nI ns) ph gY rc tmp con lLo lHi lF lC yg yj yd sl so dA dC dO kd ar co va ini ori fus sca := by
  have ix : vp_in (nI (2 * (ns - 1) + w)) 24 := vp_in_nI (by omega) (by decide)
  have ex : (nI (2 * (ns - 1) + w)).toNatClampNeg = 2 * (ns - 1) + w := nI_clamp (by omega)
  exact nm_r (lf_s2 h1) ⟨ix, nm_r (by rw [ex]) ⟨ix, nm_r (by rw [ex]) ⟨ix, nm_r (by rw [ex]) ⟨ix, nm_r (by rw [ex]) k⟩⟩⟩⟩
theorem lz_setVal {k : Nat} (hB : lf_B na n nl ns F L Lo Hi lLo lHi lF lC sl sk sa sc sv kd ar co va dA dC dO) (hs : ∀ j, na ≤ j → sca j = 0) (hP : lf_P0 nl ph gX gY xg xj xd ∨ lf_P1 nl ph gX gY xg xj xd gf gl yg yj yd) (v a c : Int32) :
    wpX_setValueOperand (fun r u' => wpY_setValueOperand (fun r' v' => r' = r ∧ i_Rel (k + 5) u' v') (nI na, nI n, nI nl, nI ns, ph, gY, rc, tmp, con, lLo, lHi, lF, lC, yg, yj, yd, sl, so, dA, dC, dO, kd, ar, co, va, ini, ori, fus, sca) v a c) (nI na, nI n, ph, nI nl, nI ns, gX, rc, tmp, con, sca, ini, ori, fus, lLo, lHi, lF, lC, xg, xj, xd, gf, gl, sl, so, sk, sa, sc, sv) v a c := by
  have hns : ns ≤ 12 := hB.1.2.2.2.2.2
  by_cases h : lf_okV ns ph v a
  · obtain ⟨h0, h1, ⟨w, hw, rfl⟩, h3⟩ := h
    have hR : i_Rel (k + 5) (nI na, nI n, ph, nI nl, nI ns, gX, rc, tmp, con, sca, ini, ori, fus, lLo, lHi, lF, lC, xg, xj, xd, gf, gl, sl, so, upd sk (3 * (ns - 1) + w) a, upd sa (3 * (ns - 1) + w) (-1), upd sc (3 * (ns - 1) + w) 0, upd sv (3 * (ns - 1) + w) c) (nI na, nI n, nI nl, nI ns, ph, gY, rc, tmp, con, lLo, lHi, lF, lC, yg, yj, yd, sl, so, dA, dC, dO, upd kd (2 * (ns - 1) + w) a, upd ar (2 * (ns - 1) + w) (-1), upd co (2 * (ns - 1) + w) 0, upd va (2 * (ns - 1) + w) c, ini, ori, fus, sca) :=
      lf_mk (lf_B_set hw (h3.elim Or.inl (fun z => Or.inr (Or.inl z))) hB) hs hP
    have h4 : ¬ a < 0 ∧ ¬ 1 < a := by
      rcases h3 with e | e
      · subst e; decide
      · subst e; decide
    unfold wpX_setValueOperand
    refine lx_can1 hns h0 h1 hw (br_f lf_10 (lx_with1 h4.1 h4.2 (br_f lf_10 (nm_r (lf_s3 h1) ?_))))
    refine lx_fill (by omega) ?_
    refine br_t h0 (br_f (nI_ne0 h1 (by omega)) (br_f (nI_pos (by omega)) (br_t (lf_le1 hw) ?_)))
    exact br_c (fun _ => ly_setVal36 h1 hns hw ⟨rfl, hR⟩) (fun h5 => br_t (h3.resolve_left h5) (ly_setVal36 h1 hns hw ⟨rfl, hR⟩))
  · exact lx_setVal_r hns h (ly_setVal_r hns h ⟨rfl, lf_mk hB hs hP⟩)
theorem i_vc_setValueOperand {k : Nat} {u : SX} {v : SY} (I : i_Rel k u v) (hk : k + 5 ≤ 2562) (v1 : Int32) (v2 : Int32) (v3 : Int32) : wpX_setValueOperand (fun r u' => wpY_setValueOperand (fun r' v' => r' = r ∧ i_Rel (k + 5) u' v') v v1 v2 v3) u v1 v2 v3 := by
  obtain ⟨na, n, nl, ns, F, L, Lo, Hi, ph, gX, gY, rc, tmp, con, sca, ini, ori, fus, lLo, lHi, lF, lC, xg, xj, xd, gf, gl, sl, so, sk, sa, sc, sv, yg, yj, yd, dA, dC, dO, kd, ar, co, va, rfl, rfl, hB, hs, hP⟩ := I
  exact lz_setVal hB hs hP v1 v2 v3

/-! cells -/
theorem lf_ci {a j : Nat} (ha : a < na) (hj : j < n) (hna : na ≤ 6) (hn : n ≤ 16) : vp_in (nI a * 16 + nI j) 96 := by
  rw [lf_16]; exact vp_in_nI (by omega) (by decide)
theorem ly_setInit_r {post : Int32 → SY → Prop} {v w c : Int32} (hna : na ≤ 6) (hn : n ≤ 16) (h : ¬ ∃ a j, a < na ∧ j < n ∧ v = nI a ∧ w = nI j) (k : post 0 (nI na, nI n, nI nl, nI ns, ph, gY, rc, tmp, con, lLo, lHi, lF, lC, yg, yj, yd, sl, so, dA, dC, dO, kd, ar, co, va, ini, ori, fus, sca)) : wpY_setInit post (nI na, nI n, nI nl, nI ns, ph, gY, rc, tmp, con, lLo, lHi, lF, lC, yg, yj, yd, sl, so, dA, dC, dO, kd, ar, co, va, ini, ori, fus, sca) v w c :=
  br_c (fun _ => k) (fun h0 => br_c (fun _ => k) (fun h1 => br_c (fun _ => k) (fun h2 => br_c (fun h3 => by
    obtain ⟨a, ha, e⟩ := ly_rng' (by omega) h0 h1
    obtain ⟨j, hj, e2⟩ := ly_rng (by omega) h2 h3
    exact absurd ⟨a, j, ha, hj, e, e2⟩ h) (fun _ => k))))
theorem lz_setInit {k : Nat} (hB : lf_B na n nl ns F L Lo Hi lLo lHi lF lC sl sk sa sc sv kd ar co va dA dC dO) (hs : ∀ j, na ≤ j → sca j = 0) (hP : lf_P0 nl ph gX gY xg xj xd ∨ lf_P1 nl ph gX gY xg xj xd gf gl yg yj yd) (v w c : Int32) :
    wpX_setInit (fun r u' => wpY_setInit (fun r' v' => r' = r ∧ i_Rel (k + 5) u' v') (nI na, nI n, nI nl, nI ns, ph, gY, rc, tmp, con, lLo, lHi, lF, lC, yg, yj, yd, sl, so, dA, dC, dO, kd, ar, co, va, ini, ori, fus, sca) v w c) (nI na, nI n, ph, nI nl, nI ns, gX, rc, tmp, con, sca, ini, ori, fus, lLo, lHi, lF, lC, xg, xj, xd, gf, gl, sl, so, sk, sa, sc, sv) v w c := by
  have hna : na ≤ 6 := hB.1.2.1
  have hn : n ≤ 16 := hB.1.2.2.2.1
  unfold wpX_setInit
  by_cases h : ∃ a j, a < na ∧ j < n ∧ v = nI a ∧ w = nI j
  · obtain ⟨a, j, ha, hj, rfl, rfl⟩ := h
    refine lx_cell1 ha hj hna hn (br_f lf_10 ⟨lf_ci ha hj hna hn, nm_e ?_⟩)
    exact br_f (nI_pos (by omega)) (br_f (nI_ge ha (by omega)) (br_f (nI_pos (by omega)) (br_t (nI_lt hj (by omega)) ⟨lf_ci ha hj hna hn, nm_e ⟨rfl, lf_mk hB hs hP⟩⟩)))
  · exact lx_cell0 h hna hn (br_t rfl (ly_setInit_r hna hn h ⟨rfl, lf_mk hB hs hP⟩))
theorem i_vc_setInit {k : Nat} {u : SX} {v : SY} (I : i_Rel k u v) (hk : k + 5 ≤ 2562) (v1 : Int32) (v2 : Int32) (v3 : Int32) : wpX_setInit (fun r u' => wpY_setInit (fun r' v' => r' = r ∧ i_Rel (k + 5) u' v') v v1 v2 v3) u v1 v2 v3 := by
  obtain ⟨na, n, nl, ns, F, L, Lo, Hi, ph, gX, gY, rc, tmp, con, sca, ini, ori, fus, lLo, lHi, lF, lC, xg, xj, xd, gf, gl, sl, so, sk, sa, sc, sv, yg, yj, yd, dA, dC, dO, kd, ar, co, va, rfl, rfl, hB, hs, hP⟩ := I
  exact lz_setInit hB hs hP v1 v2 v3

theorem ly_getInit_r {post : Int32 → Prop} {v w : Int32} (hna : na ≤ 6) (hn : n ≤ 16) (h : ¬ ∃ a j, a < na ∧ j < n ∧ v = nI a ∧ w = nI j) (k : post 0) : wpY_getInit post (nI na, nI n, nI nl, nI ns, ph, gY, rc, tmp, con, lLo, lHi, lF, lC, yg, yj, yd, sl, so, dA, dC, dO, kd, ar, co, va, ini, ori, fus, sca) v w :=
  br_c (fun _ => k) (fun h0 => br_c (fun _ => k) (fun h1 => br_c (fun _ => k) (fun h2 => br_c (fun h3 => by
    obtain ⟨a, ha, e⟩ := ly_rng' (by omega) h0 h1
    obtain ⟨j, hj, e2⟩ := ly_rng (by omega) h2 h3
    exact absurd ⟨a, j, ha, hj, e, e2⟩ h) (fun _ => k))))
theorem lz_getInit {P : Prop} (hna : na ≤ 6) (hn : n ≤ 16) (hR : P) (v w : Int32) : wpX_getInit (fun r => wpY_getInit (fun r' => r' = r ∧ P) (nI na, nI n, nI nl, nI ns, ph, gY, rc, tmp, con, lLo, lHi, lF, lC, yg, yj, yd, sl, so, dA, dC, dO, kd, ar, co, va, ini, ori, fus, sca) v w) (nI na, nI n, ph, nI nl, nI ns, gX, rc, tmp, con, sca, ini, ori, fus, lLo, lHi, lF, lC, xg, xj, xd, gf, gl, sl, so, sk, sa, sc, sv) v w := by
  unfold wpX_getInit
  by_cases h : ∃ a j, a < na ∧ j < n ∧ v = nI a ∧ w = nI j
  · obtain ⟨a, j, ha, hj, rfl, rfl⟩ := h
    refine lx_cell1 ha hj hna hn (br_f lf_10 ⟨lf_ci ha hj hna hn, ?_⟩)
    exact br_f (nI_pos (by omega)) (br_f (nI_ge ha (by omega)) (br_f (nI_pos (by omega)) (br_t (nI_lt hj (by omega)) ⟨lf_ci ha hj hna hn, rfl, hR⟩)))
  · exact lx_cell0 h hna hn (br_t rfl (ly_getInit_r hna hn h ⟨rfl, hR⟩))
theorem i_vc_getInit {k : Nat} {u : SX} {v : SY} (I : i_Rel k u v) (hk : k + 5 ≤ 2562) (v1 : Int32) (v2 : Int32) : wpX_getInit (fun r => wpY_getInit (fun r' => r' = r ∧ i_Rel (k + 5) u v) v v1 v2) u v1 v2 := by
  have hR : i_Rel (k + 5) u v := I
  obtain ⟨na, n, nl, ns, F, L, Lo, Hi, ph, gX, gY, rc, tmp, con, sca, ini, ori, fus, lLo, lHi, lF, lC, xg, xj, xd, gf, gl, sl, so, sk, sa, sc, sv, yg, yj, yd, dA, dC, dO, kd, ar, co, va, rfl, rfl, hB, hs, hP⟩ := I
  exact lz_getInit hB.1.2.1 hB.1.2.2.2.1 hR v1 v2

theorem ly_getOriginal_r {post : Int32 → Prop} {v w : Int32} (hna : na ≤ 6) (hn : n ≤ 16) (h : ¬ ∃ a j, a < na ∧ j < n ∧ v = nI a ∧ w = nI j) (k : post 0) : wpY_getOriginal post (nI na, nI n, nI nl, nI ns, ph, gY, rc, tmp, con, lLo, lHi, lF, lC, yg, yj, yd, sl, so, dA, dC, dO, kd, ar, co, va, ini, ori, fus, sca) v w :=
  br_c (fun _ => k) (fun h0 => br_c (fun _ => k) (fun h1 => br_c (fun _ => k) (fun h2 => br_c (fun h3 => by
    obtain ⟨a, ha, e⟩ := ly_rng' (by omega) h0 h1
    obtain ⟨j, hj, e2⟩ := ly_rng (by omega) h2 h3
    exact absurd ⟨a, j, ha, hj, e, e2⟩ h) (fun _ => k))))
theorem lz_getOriginal {P : Prop} (hna : na ≤ 6) (hn : n ≤ 16) (hR : P) (v w : Int32) : wpX_getOriginal (fun r => wpY_getOriginal (fun r' => r' = r ∧ P) (nI na, nI n, nI nl, nI ns, ph, gY, rc, tmp, con, lLo, lHi, lF, lC, yg, yj, yd, sl, so, dA, dC, dO, kd, ar, co, va, ini, ori, fus, sca) v w) (nI na, nI n, ph, nI nl, nI ns, gX, rc, tmp, con, sca, ini, ori, fus, lLo, lHi, lF, lC, xg, xj, xd, gf, gl, sl, so, sk, sa, sc, sv) v w := by
  unfold wpX_getOriginal
  by_cases h : ∃ a j, a < na ∧ j < n ∧ v = nI a ∧ w = nI j
  · obtain ⟨a, j, ha, hj, rfl, rfl⟩ := h
    refine lx_cell1 ha hj hna hn (br_f lf_10 ⟨lf_ci ha hj hna hn, ?_⟩)
    exact br_f (nI_pos (by omega)) (br_f (nI_ge ha (by omega)) (br_f (nI_pos (by omega)) (br_t (nI_lt hj (by omega)) ⟨lf_ci ha hj hna hn, rfl, hR⟩)))
  · exact lx_cell0 h hna hn (br_t rfl (ly_getOriginal_r hna hn h ⟨rfl, hR⟩))
theorem i_vc_getOriginal {k : Nat} {u : SX} {v : SY} (I : i_Rel k u v) (hk : k + 5 ≤ 2562) (v1 : Int32) (v2 : Int32) : wpX_getOriginal (fun r => wpY_getOriginal (fun r' => r' = r ∧ i_Rel (k + 5) u v) v v1 v2) u v1 v2 := by
  have hR : i_Rel (k + 5) u v := I
  obtain ⟨na, n, nl, ns, F, L, Lo, Hi, ph, gX, gY, rc, tmp, con, sca, ini, ori, fus, lLo, lHi, lF, lC, xg, xj, xd, gf, gl, sl, so, sk, sa, sc, sv, yg, yj, yd, dA, dC, dO, kd, ar, co, va, rfl, rfl, hB, hs, hP⟩ := I
  exact lz_getOriginal hB.1.2.1 hB.1.2.2.2.1 hR v1 v2

theorem ly_getFused_r {post : Int32 → Prop} {v w : Int32} (hna : na ≤ 6) (hn : n ≤ 16) (h : ¬ ∃ a j, a < na ∧ j < n ∧ v = nI a ∧ w = nI j) (k : post 0) : wpY_getFused post (nI na, nI n, nI nl, nI ns, ph, gY, rc, tmp, con, lLo, lHi, lF, lC, yg, yj, yd, sl, so, dA, dC, dO, kd, ar, co, va, ini, ori, fus, sca) v w :=
  br_c (fun _ => k) (fun h0 => br_c (fun _ => k) (fun h1 => br_c (fun _ => k) (fun h2 => br_c (fun h3 => by
    obtain ⟨a, ha, e⟩ := ly_rng' (by omega) h0 h1
    obtain ⟨j, hj, e2⟩ := ly_rng (by omega) h2 h3
    exact absurd ⟨a, j, ha, hj, e, e2⟩ h) (fun _ => k))))
theorem lz_getFused {P : Prop} (hna : na ≤ 6) (hn : n ≤ 16) (hR : P) (v w : Int32) : wpX_getFused (fun r => wpY_getFused (fun r' => r' = r ∧ P) (nI na, nI n, nI nl, nI ns, ph, gY, rc, tmp, con, lLo, lHi, lF, lC, yg, yj, yd, sl, so, dA, dC, dO, kd, ar, co, va, ini, ori, fus, sca) v w) (nI na, nI n, ph, nI nl, nI ns, gX, rc, tmp, con, sca, ini, ori, fus, lLo, lHi, lF, lC, xg, xj, xd, gf, gl, sl, so, sk, sa, sc, sv) v w := by
  unfold wpX_getFused
  by_cases h : ∃ a j, a < na ∧ j < n ∧ v = nI a ∧ w = nI j
  · obtain ⟨a, j, ha, hj, rfl, rfl⟩ := h
    refine lx_cell1 ha hj hna hn (br_f lf_10 ⟨lf_ci ha hj hna hn, ?_⟩)
    exact br_f (nI_pos (by omega)) (br_f (nI_ge ha (by omega)) (br_f (nI_pos (by omega)) (br_t (nI_lt hj (by omega)) ⟨lf_ci ha hj hna hn, rfl, hR⟩)))
  · exact lx_cell0 h hna hn (br_t rfl (ly_getFused_r hna hn h ⟨rfl, hR⟩))
theorem i_vc_getFused {k : Nat} {u : SX} {v : SY} (I : i_Rel k u v) (hk : k + 5 ≤ 2562) (v1 : Int32) (v2 : Int32) : wpX_getFused (fun r => wpY_getFused (fun r' => r' = r ∧ i_Rel (k + 5) u v) v v1 v2) u v1 v2 := by
  have hR : i_Rel (k + 5) u v := I
  obtain ⟨na, n, nl, ns, F, L, Lo, Hi, ph, gX, gY, rc, tmp, con, sca, ini, ori, fus, lLo, lHi, lF, lC, xg, xj, xd, gf, gl, sl, so, sk, sa, sc, sv, yg, yj, yd, dA, dC, dO, kd, ar, co, va, rfl, rfl, hB, hs, hP⟩ := I
  exact lz_getFused hB.1.2.1 hB.1.2.2.2.1 hR v1 v2

end LFT
