section LFS
variable {na n nl ns : Nat} {ph gX gY rc : Int32} {tmp con sca ini ori fus lLo lHi lF lC xg xj xd gf gl sl so sk sa sc sv yg yj yd dA dC dO kd ar co va : Nat → Int32} {F L Lo Hi G gp : Nat → Nat}
/-! refusals: each side alone -/
theorem lx_setTemp_r {post : Int32 → SX → Prop} {v w : Int32} (hn : na ≤ 6) (h : ¬ (ph = 0 ∧ ∃ a, a < na ∧ v = nI a)) (k : post 0 (nI na, nI n, ph, nI nl, nI ns, gX, rc, tmp, con, sca, ini, ori, fus, lLo, lHi, lF, lC, xg, xj, xd, gf, gl, sl, so, sk, sa, sc, sv)) : wpX_setTemp post (nI na, nI n, ph, nI nl, nI ns, gX, rc, tmp, con, sca, ini, ori, fus, lLo, lHi, lF, lC, xg, xj, xd, gf, gl, sl, so, sk, sa, sc, sv) v w :=
  br_c (fun h0 => lx_isArr hn (fun h1 => absurd ⟨h0, h1⟩ h) (br_t rfl k)) (fun _ => k)
theorem ly_rng {v : Int32} {m : Nat} (hm : m < 2 ^ 31) (h0 : ¬ v < 0) (h1 : v < nI m) : ∃ a, a < m ∧ v = nI a := by
  obtain ⟨j, hj, rfl⟩ := nI_of h0
  exact ⟨j, (nI_ltI hj hm).mp h1, rfl⟩
theorem ly_rng' {v : Int32} {m : Nat} (hm : m < 2 ^ 31) (h0 : ¬ v < 0) (h1 : ¬ nI m ≤ v) : ∃ a, a < m ∧ v = nI a := ly_rng hm h0 (Int32.not_le.mp h1)
theorem ly_setTemp_r {post : Int32 → SY → Prop} {v w : Int32} (hn : na ≤ 6) (h : ¬ (ph = 0 ∧ ∃ a, a < na ∧ v = nI a)) (k : post 0 (nI na, nI n, nI nl, nI ns, ph, gY, rc, tmp, con, lLo, lHi, lF, lC, yg, yj, yd, sl, so, dA, dC, dO, kd, ar, co, va, ini, ori, fus, sca)) : wpY_setTemp post (nI na, nI n, nI nl, nI ns, ph, gY, rc, tmp, con, lLo, lHi, lF, lC, yg, yj, yd, sl, so, dA, dC, dO, kd, ar, co, va, ini, ori, fus, sca) v w :=
  br_c (fun h0 => br_c (fun _ => k) (fun h1 => br_c (fun h2 => absurd ⟨h0, ly_rng (by omega) h1 h2⟩ h) (fun _ => k))) (fun _ => k)
theorem lz_setTemp {k : Nat} (hB : lf_B na n nl ns F L Lo Hi lLo lHi lF lC sl sk sa sc sv kd ar co va dA dC dO) (hs : ∀ j, na ≤ j → sca j = 0) (hP : lf_P0 nl ph gX gY xg xj xd ∨ lf_P1 nl ph gX gY xg xj xd gf gl yg yj yd) (v w : Int32) :
    wpX_setTemp (fun r u' => wpY_setTemp (fun r' v' => r' = r ∧ i_Rel (k + 5) u' v') (nI na, nI n, nI nl, nI ns, ph, gY, rc, tmp, con, lLo, lHi, lF, lC, yg, yj, yd, sl, so, dA, dC, dO, kd, ar, co, va, ini, ori, fus, sca) v w) (nI na, nI n, ph, nI nl, nI ns, gX, rc, tmp, con, sca, ini, ori, fus, lLo, lHi, lF, lC, xg, xj, xd, gf, gl, sl, so, sk, sa, sc, sv) v w := by
  have hn : na ≤ 6 := hB.1.2.1
  by_cases h : ph = 0 ∧ ∃ a, a < na ∧ v = nI a
  · obtain ⟨h0, a, ha, rfl⟩ := h
    have hi : vp_in (nI a) 6 := vp_in_nI (by omega) (by decide)
    refine br_t h0 (lx_isArr1 ha hn (br_f lf_10 ⟨hi, nm_e ?_⟩))
    exact br_t h0 (br_f (nI_pos (by omega)) (br_t (nI_lt ha (by omega)) ⟨hi, nm_e ⟨rfl, lf_mk hB hs hP⟩⟩))
  · exact lx_setTemp_r hn h (ly_setTemp_r hn h ⟨rfl, lf_mk hB hs hP⟩)
theorem i_vc_setTemp {k : Nat} {u : SX} {v : SY} (I : i_Rel k u v) (hk : k + 5 ≤ 2562) (v1 : Int32) (v2 : Int32) : wpX_setTemp (fun r u' => wpY_setTemp (fun r' v' => r' = r ∧ i_Rel (k + 5) u' v') v v1 (lw_bz v2)) u v1 (lw_bz v2) := by
  obtain ⟨na, n, nl, ns, F, L, Lo, Hi, ph, gX, gY, rc, tmp, con, sca, ini, ori, fus, lLo, lHi, lF, lC, xg, xj, xd, gf, gl, sl, so, sk, sa, sc, sv, yg, yj, yd, dA, dC, dO, kd, ar, co, va, rfl, rfl, hB, hs, hP⟩ := I
  exact lz_setTemp hB hs hP v1 (lw_bz v2)
/-! addLoop -/
def lf_okL (nl : Nat) (ph v w : Int32) : Prop := ph = 0 ∧ nl < 8 ∧ (¬ v < 0 ∧ ¬ 15 < v) ∧ ¬ w < 0 ∧ ¬ 15 < w
theorem lx_addLoop_r {post : Int32 → SX → Prop} {v w : Int32} (hl : nl ≤ 8) (h : ¬ lf_okL nl ph v w) (k : post (-1) (nI na, nI n, ph, nI nl, nI ns, gX, rc, tmp, con, sca, ini, ori, fus, lLo, lHi, lF, lC, xg, xj, xd, gf, gl, sl, so, sk, sa, sc, sv)) : wpX_addLoop post (nI na, nI n, ph, nI nl, nI ns, gX, rc, tmp, con, sca, ini, ori, fus, lLo, lHi, lF, lC, xg, xj, xd, gf, gl, sl, so, sk, sa, sc, sv) v w :=
  br_c (fun h0 => br_c (fun h1 => lx_with (fun h2 h3 => br_f lf_10 (lx_with (fun h4 h5 => absurd ⟨h0, (nI_ltI (b := 8) (by omega) (by decide)).mp h1, ⟨h2, h3⟩, h4, h5⟩ h) (br_t rfl k))) (br_t rfl k)) (fun _ => k)) (fun _ => k)
theorem ly_addLoop_r {post : Int32 → SY → Prop} {v w : Int32} (hl : nl ≤ 8) (h : ¬ lf_okL nl ph v w) (k : post (-1) (nI na, nI n, nI nl, nI ns, ph, gY, rc, tmp, con, lLo, lHi, lF, lC, yg, yj, yd, sl, so, dA, dC, dO, kd, ar, co, va, ini, ori, fus, sca)) : wpY_addLoop post (nI na, nI n, nI nl, nI ns, ph, gY, rc, tmp, con, lLo, lHi, lF, lC, yg, yj, yd, sl, so, dA, dC, dO, kd, ar, co, va, ini, ori, fus, sca) v w :=
  br_c (fun h0 => br_c (fun _ => k) (fun h1 => br_c (fun _ => k) (fun h2 => br_c (fun _ => k) (fun h3 => br_c (fun _ => k) (fun h4 => br_c (fun h5 => absurd ⟨h0, (by
    by_cases z : nl = 8
    · subst z; exact absurd rfl h1
    · omega), ⟨h2, h3⟩, h4, Int32.not_lt.mpr h5⟩ h) (fun _ => k)))))) (fun _ => k)
theorem lf_P0_app {nl : Nat} {ph gX gY : Int32} {xg xj xd : Nat → Int32} (h : lf_P0 nl ph gX gY xg xj xd) : lf_P0 (nl + 1) ph gX gY (upd xg nl (-1)) (upd xj nl (-1)) (upd xd nl 1000) := by
  refine ⟨h.1, h.2.1, h.2.2.1, fun l hl => ?_⟩
  by_cases e : l = nl
  · subst e; rw [pk_us, pk_us, pk_us]; exact ⟨rfl, rfl, rfl⟩
  · rw [pk_un e, pk_un e, pk_un e]; exact h.2.2.2 l (by omega)
theorem lf_B_app {lo hi : Nat} (hlo : lo ≤ 15) (hhi : hi ≤ 15) (hl : nl < 8) (hB : lf_B na n nl ns F L Lo Hi lLo lHi lF lC sl sk sa sc sv kd ar co va dA dC dO) :
    lf_B na n (nl + 1) ns (lf_un F (nl + 1) ns) L (lf_un Lo nl lo) (lf_un Hi nl hi) (upd lLo nl (nI lo)) (upd lHi nl (nI hi)) (upd lF nl (nI ns)) (upd lC nl 0) sl sk sa sc sv kd ar co va dA dC dO :=
  ⟨⟨hB.1.1, hB.1.2.1, hB.1.2.2.1, hB.1.2.2.2.1, by omega, hB.1.2.2.2.2.2⟩, lf_PT_app hB.2.1, lf_LP_app hlo hhi hB.2.1.2.1 hB.2.2.1, hB.2.2.2⟩
theorem lf_15 {v : Int32} {m : Nat} (hm : m < 2 ^ 31) (h : ¬ v < 0) (h2 : ¬ nI m < v) : ∃ a, a ≤ m ∧ v = nI a := by
  obtain ⟨j, hj, rfl⟩ := nI_of h
  rw [nI_ltI hm hj] at h2
  exact ⟨j, by omega, rfl⟩
theorem lz_addLoop {k : Nat} (hB : lf_B na n nl ns F L Lo Hi lLo lHi lF lC sl sk sa sc sv kd ar co va dA dC dO) (hs : ∀ j, na ≤ j → sca j = 0) (hP : lf_P0 nl ph gX gY xg xj xd ∨ lf_P1 nl ph gX gY xg xj xd gf gl yg yj yd) (v w : Int32) :
    wpX_addLoop (fun r u' => wpY_addLoop (fun r' v' => r' = r ∧ i_Rel (k + 5) u' v') (nI na, nI n, nI nl, nI ns, ph, gY, rc, tmp, con, lLo, lHi, lF, lC, yg, yj, yd, sl, so, dA, dC, dO, kd, ar, co, va, ini, ori, fus, sca) v w) (nI na, nI n, ph, nI nl, nI ns, gX, rc, tmp, con, sca, ini, ori, fus, lLo, lHi, lF, lC, xg, xj, xd, gf, gl, sl, so, sk, sa, sc, sv) v w := by
  have hl : nl ≤ 8 := hB.1.2.2.2.2.1
  by_cases h : lf_okL nl ph v w
  · obtain ⟨h0, h1, ⟨h2, h3⟩, h4, h5⟩ := h
    obtain ⟨lo, hlo, rfl⟩ := lf_15 (m := 15) (by decide) h2 h3
    obtain ⟨hi, hhi, rfl⟩ := lf_15 (m := 15) (by decide) h4 h5
    have hP' : lf_P0 nl ph gX gY xg xj xd := hP.elim id (fun z => absurd (z.1.symm.trans h0) lf_10)
    have hi : vp_in (nI nl) 8 := vp_in_nI h1 (by decide)
    have e : (nI nl).toNatClampNeg = nl := nI_clamp (by omega)
    refine br_t h0 (br_t (nI_lt (b := 8) h1 (by decide)) (lx_with1 h2 h3 (br_f lf_10 (lx_with1 h4 h5 (br_f lf_10 ?_)))))
    refine ⟨hi, nm_r (by rw [e]) ⟨hi, nm_r (by rw [e]) ⟨hi, nm_r (by rw [e]) ⟨hi, nm_r (by rw [e]) ⟨hi, nm_r (by rw [e]) ⟨hi, nm_r (by rw [e]) ⟨hi, nm_r (by rw [e]) (nm_r (nI_1 nl) ?_)⟩⟩⟩⟩⟩⟩⟩
    refine br_t h0 (br_f (lf_eq1 (b := 8) (by omega) (by decide) (by omega)) (br_f h2 (br_f h3 (br_f h4 (br_t (Int32.not_lt.mp h5) ?_)))))
    refine ⟨hi, nm_r (by rw [e]) ⟨hi, nm_r (by rw [e]) ⟨hi, nm_r (by rw [e]) ⟨hi, nm_r (by rw [e]) (nm_r (nI_1 nl) ⟨nI_pred nl, ?_⟩)⟩⟩⟩⟩
    exact lf_mk (lf_B_app hlo hhi h1 hB) hs (Or.inl (lf_P0_app hP'))
  · exact lx_addLoop_r hl h (ly_addLoop_r hl h ⟨rfl, lf_mk hB hs hP⟩)
theorem i_vc_addLoop {k : Nat} {u : SX} {v : SY} (I : i_Rel k u v) (hk : k + 5 ≤ 2562) (v1 : Int32) (v2 : Int32) : wpX_addLoop (fun r u' => wpY_addLoop (fun r' v' => r' = r ∧ i_Rel (k + 5) u' v') v v1 v2) u v1 v2 := by
  obtain ⟨na, n, nl, ns, F, L, Lo, Hi, ph, gX, gY, rc, tmp, con, sca, ini, ori, fus, lLo, lHi, lF, lC, xg, xj, xd, gf, gl, sl, so, sk, sa, sc, sv, yg, yj, yd, dA, dC, dO, kd, ar, co, va, rfl, rfl, hB, hs, hP⟩ := I
  exact lz_addLoop hB hs hP v1 v2
/-! addStatement -/
def lf_okS (na nl ns : Nat) (ph v a c o : Int32) : Prop := ph = 0 ∧ 0 < nl ∧ ns < 12 ∧ (¬ v < 0 ∧ ¬ 2 < v) ∧ lf_ok na a c o
theorem lx_addStmt_r {post : Int32 → SX → Prop} {v a c o : Int32} (hn : na ≤ 6) (hl : nl ≤ 8) (hns : ns ≤ 12) (h : ¬ lf_okS na nl ns ph v a c o) (k : post (-1) (nI na, nI n, ph, nI nl, nI ns, gX, rc, tmp, con, sca, ini, ori, fus, lLo, lHi, lF, lC, xg, xj, xd, gf, gl, sl, so, sk, sa, sc, sv)) : wpX_addStatement post (nI na, nI n, ph, nI nl, nI ns, gX, rc, tmp, con, sca, ini, ori, fus, lLo, lHi, lF, lC, xg, xj, xd, gf, gl, sl, so, sk, sa, sc, sv) v a c o :=
  br_c (fun h0 => br_c (fun _ => k) (fun h1 => br_c (fun h2 => lx_with (fun h3 h4 => br_f lf_10 (lx_ref hn (fun h5 => absurd ⟨h0, (by
    by_cases z : nl = 0
    · subst z; exact absurd rfl h1
    · omega), (nI_ltI (b := 12) (by omega) (by decide)).mp h2, ⟨h3, h4⟩, h5⟩ h) (br_t rfl k))) (br_t rfl k)) (fun _ => k))) (fun _ => k)
theorem ly_addStmt_r {post : Int32 → SY → Prop} {v a c o : Int32} (hn : na ≤ 6) (hl : nl ≤ 8) (hns : ns ≤ 12) (h : ¬ lf_okS na nl ns ph v a c o) (k : post (-1) (nI na, nI n, nI nl, nI ns, ph, gY, rc, tmp, con, lLo, lHi, lF, lC, yg, yj, yd, sl, so, dA, dC, dO, kd, ar, co, va, ini, ori, fus, sca)) : wpY_addStatement post (nI na, nI n, nI nl, nI ns, ph, gY, rc, tmp, con, lLo, lHi, lF, lC, yg, yj, yd, sl, so, dA, dC, dO, kd, ar, co, va, ini, ori, fus, sca) v a c o :=
  br_c (fun h0 => br_c (fun _ => k) (fun h1 => br_c (fun _ => k) (fun h2 => br_c (fun _ => k) (fun h3 => br_c (fun _ => k) (fun h4 => br_c (fun _ => k) (fun h5 => br_c (fun h6 => br_c (fun _ => k) (fun h7 => br_c (fun _ => k) (fun h8 => br_c (fun _ => k) (fun h9 => br_c (fun h10 => absurd ⟨h0, (by
    by_cases z : nl = 0
    · subst z; exact absurd rfl h1
    · omega), (by
    by_cases z : ns = 12
    · subst z; exact absurd rfl h2
    · omega), ⟨h3, h4⟩, ly_rng (by omega) h5 h6, h7, h8, h9, Int32.not_lt.mpr h10⟩ h) (fun _ => k))))) (fun _ => k))))))) (fun _ => k)
theorem lf_B_ext {a c o : Int32} {b : Nat} (hb : b < na) (ha : a = nI b) (h0 : 0 < nl) (hns : ns < 12) (hB : lf_B na n nl ns F L Lo Hi lLo lHi lF lC sl sk sa sc sv kd ar co va dA dC dO) :
    lf_B na n nl (ns + 1) (lf_un F nl (ns + 1)) (lf_un L ns (nl - 1)) Lo Hi lLo lHi lF (upd lC (nl - 1) (lC (nl - 1) + 1)) (upd sl ns (nI (nl - 1)))
      (upd (upd (upd sk (3 * ns) 0) (3 * ns + 1) 0) (3 * ns + 2) 2) (upd (upd (upd sa (3 * ns) (-1)) (3 * ns + 1) (-1)) (3 * ns + 2) a) (upd (upd (upd sc (3 * ns) 0) (3 * ns + 1) 0) (3 * ns + 2) c) (upd (upd (upd sv (3 * ns) 0) (3 * ns + 1) 0) (3 * ns + 2) o)
      (upd (upd kd (2 * ns) 0) (2 * ns + 1) 0) (upd (upd ar (2 * ns) (-1)) (2 * ns + 1) (-1)) (upd (upd co (2 * ns) 0) (2 * ns + 1) 0) (upd (upd va (2 * ns) 0) (2 * ns + 1) 0) (upd dA ns a) (upd dC ns c) (upd dO ns o) :=
  ⟨⟨hB.1.1, hB.1.2.1, hB.1.2.2.1, hB.1.2.2.2.1, hB.1.2.2.2.2.1, by omega⟩, lf_PT_ext h0 hB.2.1, lf_LP_ext h0 hB.2.1.2.1 (lf_PT_le hB.2.1 (by omega)) hB.2.2.1, lf_sl_ext hB.2.2.2.1, lf_SR_add hB.2.2.2.2.1, lf_WF_add ⟨b, hb, ha⟩ hB.2.2.2.2.2⟩
theorem ly_add134 {post : Int32 → SY → Prop} (hl : nl ≤ 8) (h0 : 0 < nl) (hns : ns < 12)
    (k : post (nI ns) (nI na, nI n, nI nl, nI (ns + 1), ph, gY, rc, tmp, con, lLo, lHi, lF, upd lC (nl - 1) (lC (nl - 1) + 1), yg, yj, yd, sl, so, dA, dC, dO, upd (upd kd (2 * ns) 0) (2 * ns + 1) 0, upd (upd ar (2 * ns) (-1)) (2 * ns + 1) (-1), upd (upd co (2 * ns) 0) (2 * ns + 1) 0, upd (upd va (2 * ns) 0) (2 * ns + 1) 0, ini, ori, fus, sca)) :
    ∃ m, wY_addStatement_134 post (nI na) (nI n) (nI nl) (nI ns) ph gY rc m 0 tmp con lLo lHi lF lC yg yj yd sl so dA dC dO kd ar co va ini ori fus sca := by
  have i0 : vp_in (nI ns * 2 + 0) 24 := by rw [lf_m2, Int32.add_zero]; exact vp_in_nI (by omega) (by decide)
  have i1 : vp_in (nI ns * 2 + 1) 24 := by rw [lf_m2, nI_1]; exact vp_in_nI (by omega) (by decide)
  have e0 : (nI ns * 2 + 0).toNatClampNeg = 2 * ns := by rw [lf_m2, Int32.add_zero]; exact nI_clamp (by omega)
  have e1 : (nI ns * 2 + 1).toNatClampNeg = 2 * ns + 1 := by rw [lf_m2, nI_1]; exact nI_clamp (by omega)
  have il : vp_in (nI nl - 1) 8 := by rw [lf_p1 h0]; exact vp_in_nI (by omega) (by decide)
  have el : (nI nl - 1).toNatClampNeg = nl - 1 := by rw [lf_p1 h0]; exact nI_clamp (by omega)
  refine ⟨3, br_f (by decide) ⟨i0, nm_r (by rw [e0]) ⟨i0, nm_r (by rw [e0]) ⟨i0, nm_r (by rw [e0]) ⟨i0, nm_r (by rw [e0]) (nm_r (show (0 : Int32) + 1 = 1 from by decide) ?_)⟩⟩⟩⟩⟩
  refine br_f (by decide) ⟨i1, nm_r (by rw [e1]) ⟨i1, nm_r (by rw [e1]) ⟨i1, nm_r (by rw [e1]) ⟨i1, nm_r (by rw [e1]) (nm_r (show (1 : Int32) + 1 = 2 from by decide) ?_)⟩⟩⟩⟩
  refine br_t (by decide) ⟨il, il, nm_r (by rw [el]) (nm_r (nI_1 ns) ?_)⟩
  rw [nI_pred]
  exact k
theorem lz_addStmt {k : Nat} (hB : lf_B na n nl ns F L Lo Hi lLo lHi lF lC sl sk sa sc sv kd ar co va dA dC dO) (hs : ∀ j, na ≤ j → sca j = 0) (hP : lf_P0 nl ph gX gY xg xj xd ∨ lf_P1 nl ph gX gY xg xj xd gf gl yg yj yd) (v a c o : Int32) :
    wpX_addStatement (fun r u' => wpY_addStatement (fun r' v' => r' = r ∧ i_Rel (k + 5) u' v') (nI na, nI n, nI nl, nI ns, ph, gY, rc, tmp, con, lLo, lHi, lF, lC, yg, yj, yd, sl, so, dA, dC, dO, kd, ar, co, va, ini, ori, fus, sca) v a c o) (nI na, nI n, ph, nI nl, nI ns, gX, rc, tmp, con, sca, ini, ori, fus, lLo, lHi, lF, lC, xg, xj, xd, gf, gl, sl, so, sk, sa, sc, sv) v a c o := by
  have hn : na ≤ 6 := hB.1.2.1
  have hl : nl ≤ 8 := hB.1.2.2.2.2.1
  have hns : ns ≤ 12 := hB.1.2.2.2.2.2
  by_cases h : lf_okS na nl ns ph v a c o
  · obtain ⟨h0, h1, h2, ⟨h3, h4⟩, h5⟩ := h
    obtain ⟨⟨b, hb, ea⟩, h6, h7, h8, h9⟩ := id h5
    have i1 : vp_in (nI ns) 12 := vp_in_nI h2 (by decide)
    have e1 : (nI ns).toNatClampNeg = ns := nI_clamp (by omega)
    have il : vp_in (nI nl - 1) 8 := by rw [lf_p1 h1]; exact vp_in_nI (by omega) (by decide)
    have el : (nI nl - 1).toNatClampNeg = nl - 1 := by rw [lf_p1 h1]; exact nI_clamp (by omega)
    refine br_t h0 (br_f (nI_ne0 h1 (by omega)) (br_t (nI_lt (b := 12) h2 (by decide)) (lx_with1 h3 h4 (br_f lf_10 (lx_ref1 hn h5 (br_f lf_10 ?_))))))
    refine nm_r (lf_m3 ns) ⟨i1, nm_r (by rw [e1, lf_p1 h1]) ⟨i1, nm_r (by rw [e1]) ?_⟩⟩
    refine lx_fill (by omega) ?_
    dsimp only
    rw [nI_1 (3 * ns)]
    refine lx_fill (by omega) ?_
    dsimp only
    rw [lf_a2 (3 * ns)]
    refine lx_fill (by omega) ?_
    refine ⟨il, il, nm_r (by rw [el]) (nm_r (nI_1 ns) ?_)⟩
    refine br_t h0 (br_f (nI_ne0 h1 (by omega)) (br_f (lf_eq1 (b := 12) (by omega) (by decide) (by omega)) (br_f h3 (br_f h4 ?_))))
    subst ea
    refine br_f (nI_pos (by omega)) (br_t (nI_lt hb (by omega)) (br_f h6 (br_f h7 (br_f h8 (br_t (Int32.not_lt.mp h9) ?_)))))
    refine ⟨i1, nm_r (by rw [e1, lf_p1 h1]) ⟨i1, nm_r (by rw [e1]) ⟨i1, nm_r (by rw [e1]) ⟨i1, nm_r (by rw [e1]) ⟨i1, nm_r (by rw [e1]) ?_⟩⟩⟩⟩⟩
    exact ly_add134 hl h1 h2 ⟨rfl, lf_mk (lf_B_ext hb rfl h1 h2 hB) hs hP⟩
  · exact lx_addStmt_r hn hl hns h (ly_addStmt_r hn hl hns h ⟨rfl, lf_mk hB hs hP⟩)
theorem i_vc_addStatement {k : Nat} {u : SX} {v : SY} (I : i_Rel k u v) (hk : k + 5 ≤ 2562) (v1 : Int32) (v2 : Int32) (v3 : Int32) (v4 : Int32) : wpX_addStatement (fun r u' => wpY_addStatement (fun r' v' => r' = r ∧ i_Rel (k + 5) u' v') v v1 v2 v3 v4) u v1 v2 v3 v4 := by
  obtain ⟨na, n, nl, ns, F, L, Lo, Hi, ph, gX, gY, rc, tmp, con, sca, ini, ori, fus, lLo, lHi, lF, lC, xg, xj, xd, gf, gl, sl, so, sk, sa, sc, sv, yg, yj, yd, dA, dC, dO, kd, ar, co, va, rfl, rfl, hB, hs, hP⟩ := I
  exact lz_addStmt hB hs hP v1 v2 v3 v4
end LFS
