section LFU
variable {na n nl ns : Nat} {ph gX gY rc : Int32} {tmp con sca ini ori fus lLo lHi lF lC xg xj xd gf gl sl so sk sa sc sv yg yj yd dA dC dO kd ar co va : Nat → Int32} {F L Lo Hi G gp : Nat → Nat}
theorem lf_na : ∀ a b : Int32, ¬ a = b → ¬ b = a := fun _ _ h z => h z.symm
theorem lx_cc {post : Int32 → Prop} (hna : na ≤ 6) (k : post (lf_cc na con)) : ∀ d i, i + d = na → wX_countContracted_4 post (nI na) (nI n) ph (nI nl) (nI ns) gX rc tmp con sca ini ori fus lLo lHi lF lC xg xj xd gf gl sl so sk sa sc sv (d + 1) (lf_to (fun x d => if con x = 0 then d else d + 1) 0 i 0) (nI i) := by
  intro d
  induction d with
  | zero =>
    intro i hi
    obtain rfl : i = na := by omega
    exact br_t (lf_rfl _) k
  | succ d ih =>
    intro i hi
    have h := ih (i + 1) (by omega)
    rw [lf_to_s (Nat.zero_le _)] at h
    refine br_f (nI_ge (by omega) (by omega)) ⟨vp_in_nI (by omega) (by decide), br_c (fun e => ?_) (fun e => ?_)⟩
    · rw [nI_clamp (by omega)] at e
      rw [if_pos e] at h
      exact nm_r (nI_1 i) h
    · rw [nI_clamp (by omega)] at e
      rw [if_neg e] at h
      exact nm_e (nm_r (nI_1 i) h)
theorem ly_cc {post : Int32 → Prop} (hna : na ≤ 6) (k : post (lf_cc na con)) : ∀ d i, i + d = na → wY_query_59 post (nI na) (nI n) (nI nl) (nI ns) ph gY rc tmp con lLo lHi lF lC yg yj yd sl so dA dC dO kd ar co va ini ori fus sca (d + 1) (lf_to (fun x d => if con x = 0 then d else d + 1) 0 i 0) (nI i) := by
  intro d
  induction d with
  | zero =>
    intro i hi
    obtain rfl : i = na := by omega
    exact br_t (lf_rfl _) k
  | succ d ih =>
    intro i hi
    have h := ih (i + 1) (by omega)
    rw [lf_to_s (Nat.zero_le _)] at h
    refine br_f (nI_ge (by omega) (by omega)) ⟨vp_in_nI (by omega) (by decide), br_c (fun e => ?_) (fun e => ?_)⟩
    · rw [nI_clamp (by omega)] at e
      rw [if_pos e] at h
      exact nm_r (nI_1 i) h
    · rw [nI_clamp (by omega)] at e
      rw [if_neg e] at h
      exact nm_e (nm_r (nI_1 i) h)
theorem lx_count {post : Int32 → Prop} (hna : na ≤ 6) (k : post (lf_cc na con)) : wpX_countContracted post (nI na, nI n, ph, nI nl, nI ns, gX, rc, tmp, con, sca, ini, ori, fus, lLo, lHi, lF, lC, xg, xj, xd, gf, gl, sl, so, sk, sa, sc, sv) := ⟨na + 1, lx_cc hna k na 0 (by omega)⟩

theorem ly_query_o {post : Int32 → Prop} {v : Int32} (h : v < 0 ∨ 7 < v) (k : post (-1000)) : wpY_query post (nI na, nI n, nI nl, nI ns, ph, gY, rc, tmp, con, lLo, lHi, lF, lC, yg, yj, yd, sl, so, dA, dC, dO, kd, ar, co, va, ini, ori, fus, sca) v := by
  have h0' : ¬ v = 0 := by intro z; subst z; revert h; decide
  have h1' : ¬ v = 1 := by intro z; subst z; revert h; decide
  have h2' : ¬ v = 2 := by intro z; subst z; revert h; decide
  have h3' : ¬ v = 3 := by intro z; subst z; revert h; decide
  have h4' : ¬ v = 4 := by intro z; subst z; revert h; decide
  have h5' : ¬ v = 5 := by intro z; subst z; revert h; decide
  have h6' : ¬ v = 6 := by intro z; subst z; revert h; decide
  have h7' : ¬ v = 7 := by intro z; subst z; revert h; decide
  exact br_f h0' (br_f h1' (br_f h2' (br_f h3' (br_f h4' (br_f h5' (br_f h6' (br_f h7' (k))))))))

theorem lz_query {P : Prop} (hna : na ≤ 6) (hP : lf_P0 nl ph gX gY xg xj xd ∨ lf_P1 nl ph gX gY xg xj xd gf gl yg yj yd) (hR : P) (v : Int32) : wpX_query (fun r => wpY_query (fun r' => r' = r ∧ P) (nI na, nI n, nI nl, nI ns, ph, gY, rc, tmp, con, lLo, lHi, lF, lC, yg, yj, yd, sl, so, dA, dC, dO, kd, ar, co, va, ini, ori, fus, sca) v) (nI na, nI n, ph, nI nl, nI ns, gX, rc, tmp, con, sca, ini, ori, fus, lLo, lHi, lF, lC, xg, xj, xd, gf, gl, sl, so, sk, sa, sc, sv) v := by
  have hg : (ph = 0 → 0 = gX) ∧ (¬ ph = 0 → gY = gX) := by
    rcases hP with h | h
    · exact ⟨fun _ => h.2.1.symm, fun z => absurd h.1 z⟩
    · obtain ⟨e, g, G, gp, e1, e2, _⟩ := h
      exact ⟨fun z => absurd (e.symm.trans z) lf_10, fun _ => e2.trans e1.symm⟩
  refine br_c (fun h => ly_query_o (Or.inl h) ⟨rfl, hR⟩) (fun h0 => br_c (fun h => ly_query_o (Or.inr h) ⟨rfl, hR⟩) (fun h7 => br_c (fun e => ?_) (fun _ => br_c (fun e => ?_) (fun _ => br_c (fun e => ?_) (fun _ => br_c (fun e => ?_) (fun _ => br_c (fun e => ?_) (fun _ => br_c (fun e => ?_) (fun _ => br_c (fun e => ?_) (fun _ => br_c (fun e => ?_) (fun _ => trivial))))))))))
  · subst e
    exact br_t rfl (⟨rfl, hR⟩)
  · subst e
    exact br_f (by decide) (br_t rfl (⟨rfl, hR⟩))
  · subst e
    exact br_f (by decide) (br_f (by decide) (br_t rfl (⟨rfl, hR⟩)))
  · subst e
    exact br_f (by decide) (br_f (by decide) (br_f (by decide) (br_t rfl (br_c (fun z => ⟨hg.1 z, hR⟩) (fun z => ⟨hg.2 z, hR⟩)))))
  · subst e
    refine lx_count hna ?_
    exact br_f (by decide) (br_f (by decide) (br_f (by decide) (br_f (by decide) (br_t rfl (⟨na + 1, ly_cc hna ⟨rfl, hR⟩ na 0 (by omega)⟩)))))
  · subst e
    exact br_f (by decide) (br_f (by decide) (br_f (by decide) (br_f (by decide) (br_f (by decide) (br_t rfl (⟨rfl, hR⟩))))))
  · subst e
    exact br_f (by decide) (br_f (by decide) (br_f (by decide) (br_f (by decide) (br_f (by decide) (br_f (by decide) (br_t rfl (⟨rfl, hR⟩)))))))
  · subst e
    exact br_f (by decide) (br_f (by decide) (br_f (by decide) (br_f (by decide) (br_f (by decide) (br_f (by decide) (br_f (by decide) (br_t rfl (⟨rfl, hR⟩))))))))

theorem i_vc_query {k : Nat} {u : SX} {v : SY} (I : i_Rel k u v) (hk : k + 5 ≤ 2562) (v1 : Int32) : wpX_query (fun r => wpY_query (fun r' => r' = r ∧ i_Rel (k + 5) u v) v v1) u v1 := by
  have hR : i_Rel (k + 5) u v := I
  obtain ⟨na, n, nl, ns, F, L, Lo, Hi, ph, gX, gY, rc, tmp, con, sca, ini, ori, fus, lLo, lHi, lF, lC, xg, xj, xd, gf, gl, sl, so, sk, sa, sc, sv, yg, yj, yd, dA, dC, dO, kd, ar, co, va, rfl, rfl, hB, hs, hP⟩ := I
  exact lz_query hB.1.2.1 hP hR v1

theorem ly_li_o {post : Int32 → Prop} {v w z : Int32} (h : v < 0 ∨ 6 < v) (k : post (-1000)) : wY_loopInfo_28 post w v z (nI na) (nI n) (nI nl) (nI ns) ph gY rc tmp con lLo lHi lF lC yg yj yd sl so dA dC dO kd ar co va ini ori fus sca := by
  have h0' : ¬ v = 0 := by intro z; subst z; revert h; decide
  have h1' : ¬ v = 1 := by intro z; subst z; revert h; decide
  have h2' : ¬ v = 2 := by intro z; subst z; revert h; decide
  have h3' : ¬ v = 3 := by intro z; subst z; revert h; decide
  have h4' : ¬ v = 4 := by intro z; subst z; revert h; decide
  have h5' : ¬ v = 5 := by intro z; subst z; revert h; decide
  have h6' : ¬ v = 6 := by intro z; subst z; revert h; decide
  exact br_f h0' (br_f h1' (br_f h2' (br_f h3' (br_f h4' (br_f h5' (br_f h6' (k)))))))

theorem ly_loopInfo_p {post : Int32 → Prop} {l : Nat} {v : Int32} (hl : nl ≤ 8) (h : l < nl) (f : ph = 0 → wY_loopInfo_28 post (nI l) v 1 (nI na) (nI n) (nI nl) (nI ns) ph gY rc tmp con lLo lHi lF lC yg yj yd sl so dA dC dO kd ar co va ini ori fus sca) (g : ¬ ph = 0 → wY_loopInfo_28 post (nI l) v 0 (nI na) (nI n) (nI nl) (nI ns) ph gY rc tmp con lLo lHi lF lC yg yj yd sl so dA dC dO kd ar co va ini ori fus sca) : wpY_loopInfo post (nI na, nI n, nI nl, nI ns, ph, gY, rc, tmp, con, lLo, lHi, lF, lC, yg, yj, yd, sl, so, dA, dC, dO, kd, ar, co, va, ini, ori, fus, sca) (nI l) v :=
  br_f (nI_pos (by omega)) (br_t (nI_lt h (by omega)) (br_c f g))
theorem lz_loopInfo {P : Prop} (hl : nl ≤ 8) (hP : lf_P0 nl ph gX gY xg xj xd ∨ lf_P1 nl ph gX gY xg xj xd gf gl yg yj yd) (hR : P) (v w : Int32) : wpX_loopInfo (fun r => wpY_loopInfo (fun r' => r' = r ∧ P) (nI na, nI n, nI nl, nI ns, ph, gY, rc, tmp, con, lLo, lHi, lF, lC, yg, yj, yd, sl, so, dA, dC, dO, kd, ar, co, va, ini, ori, fus, sca) v w) (nI na, nI n, ph, nI nl, nI ns, gX, rc, tmp, con, sca, ini, ori, fus, lLo, lHi, lF, lC, xg, xj, xd, gf, gl, sl, so, sk, sa, sc, sv) v w := by
  refine br_c (fun h => br_t h ⟨rfl, hR⟩) (fun h0 => br_c (fun h1 => ?_) (fun h1 => br_f h0 (br_f h1 ⟨rfl, hR⟩)))
  obtain ⟨l, hl1, rfl⟩ := ly_rng (by omega) h0 h1
  have hi : vp_in (nI l) 8 := vp_in_nI (by omega) (by decide)
  have ec : (nI l).toNatClampNeg = l := nI_clamp (by omega)
  have hg : (ph = 0 → (-1 : Int32) = xg l ∧ (-1 : Int32) = xj l ∧ (1000 : Int32) = xd l) ∧ (¬ ph = 0 → yg l = xg l ∧ yj l = xj l ∧ yd l = xd l) := by
    rcases hP with h | h
    · obtain ⟨a, b, c⟩ := h.2.2.2 l hl1
      exact ⟨fun _ => ⟨a.symm, b.symm, c.symm⟩, fun z => absurd h.1 z⟩
    · obtain ⟨e, g, G, gp, e1, e2, hG, hJ⟩ := h
      obtain ⟨a, b⟩ := hG.2.2 l hl1
      obtain ⟨c, d⟩ := hJ l hl1
      exact ⟨fun z => absurd (e.symm.trans z) lf_10, fun _ => ⟨b.trans a.symm, c.symm, d.symm⟩⟩
  refine br_c (fun h => ly_loopInfo_p hl hl1 (fun _ => ly_li_o (Or.inl h) ⟨rfl, hR⟩) (fun _ => ly_li_o (Or.inl h) ⟨rfl, hR⟩)) (fun _ => br_c (fun h => ly_loopInfo_p hl hl1 (fun _ => ly_li_o (Or.inr h) ⟨rfl, hR⟩) (fun _ => ly_li_o (Or.inr h) ⟨rfl, hR⟩)) (fun _ => br_c (fun e => ⟨hi, ?_⟩) (fun _ => br_c (fun e => ⟨hi, ?_⟩) (fun _ => br_c (fun e => ⟨hi, ?_⟩) (fun _ => br_c (fun e => ⟨hi, ?_⟩) (fun _ => br_c (fun e => ⟨hi, ?_⟩) (fun _ => br_c (fun e => ⟨hi, ?_⟩) (fun _ => br_c (fun e => ⟨hi, ?_⟩) (fun _ => trivial)))))))))
  · subst e
    exact ly_loopInfo_p hl hl1 (fun _ => br_t rfl (⟨hi, rfl, hR⟩)) (fun _ => br_t rfl (⟨hi, rfl, hR⟩))
  · subst e
    exact ly_loopInfo_p hl hl1 (fun _ => br_f (by decide) (br_t rfl (⟨hi, rfl, hR⟩))) (fun _ => br_f (by decide) (br_t rfl (⟨hi, rfl, hR⟩)))
  · subst e
    exact ly_loopInfo_p hl hl1 (fun _ => br_f (by decide) (br_f (by decide) (br_t rfl (⟨hi, rfl, hR⟩)))) (fun _ => br_f (by decide) (br_f (by decide) (br_t rfl (⟨hi, rfl, hR⟩))))
  · subst e
    exact ly_loopInfo_p hl hl1 (fun _ => br_f (by decide) (br_f (by decide) (br_f (by decide) (br_t rfl (⟨hi, rfl, hR⟩))))) (fun _ => br_f (by decide) (br_f (by decide) (br_f (by decide) (br_t rfl (⟨hi, rfl, hR⟩)))))
  · subst e
    rw [ec]
    exact ly_loopInfo_p hl hl1 (fun z => br_f (by decide) (br_f (by decide) (br_f (by decide) (br_f (by decide) (br_t rfl (br_f lf_10 ⟨(hg.1 z).1, hR⟩)))))) (fun z => br_f (by decide) (br_f (by decide) (br_f (by decide) (br_f (by decide) (br_t rfl (br_t rfl ⟨hi, by rw [ec]; exact (hg.2 z).1, hR⟩))))))
  · subst e
    rw [ec]
    exact ly_loopInfo_p hl hl1 (fun z => br_f (by decide) (br_f (by decide) (br_f (by decide) (br_f (by decide) (br_f (by decide) (br_t rfl (br_f lf_10 ⟨(hg.1 z).2.1, hR⟩))))))) (fun z => br_f (by decide) (br_f (by decide) (br_f (by decide) (br_f (by decide) (br_f (by decide) (br_t rfl (br_t rfl ⟨hi, by rw [ec]; exact (hg.2 z).2.1, hR⟩)))))))
  · subst e
    rw [ec]
    exact ly_loopInfo_p hl hl1 (fun z => br_f (by decide) (br_f (by decide) (br_f (by decide) (br_f (by decide) (br_f (by decide) (br_f (by decide) (br_t rfl (br_f lf_10 ⟨(hg.1 z).2.2, hR⟩)))))))) (fun z => br_f (by decide) (br_f (by decide) (br_f (by decide) (br_f (by decide) (br_f (by decide) (br_f (by decide) (br_t rfl (br_t rfl ⟨hi, by rw [ec]; exact (hg.2 z).2.2, hR⟩))))))))

theorem i_vc_loopInfo {k : Nat} {u : SX} {v : SY} (I : i_Rel k u v) (hk : k + 5 ≤ 2562) (v1 : Int32) (v2 : Int32) : wpX_loopInfo (fun r => wpY_loopInfo (fun r' => r' = r ∧ i_Rel (k + 5) u v) v v1 v2) u v1 v2 := by
  have hR : i_Rel (k + 5) u v := I
  obtain ⟨na, n, nl, ns, F, L, Lo, Hi, ph, gX, gY, rc, tmp, con, sca, ini, ori, fus, lLo, lHi, lF, lC, xg, xj, xd, gf, gl, sl, so, sk, sa, sc, sv, yg, yj, yd, dA, dC, dO, kd, ar, co, va, rfl, rfl, hB, hs, hP⟩ := I
  exact lz_loopInfo hB.1.2.2.2.2.1 hP hR v1 v2

theorem ly_si_o {post : Int32 → Prop} {s : Nat} {v : Int32} (hns : ns ≤ 12) (hs : s < ns) (h : v < 0 ∨ 12 < v) (k : post (-1000)) : wpY_stmtInfo post (nI na, nI n, nI nl, nI ns, ph, gY, rc, tmp, con, lLo, lHi, lF, lC, yg, yj, yd, sl, so, dA, dC, dO, kd, ar, co, va, ini, ori, fus, sca) (nI s) v := by
  have h0' : ¬ v = 0 := by intro z; subst z; revert h; decide
  have h1' : ¬ v = 1 := by intro z; subst z; revert h; decide
  have h2' : ¬ v = 2 := by intro z; subst z; revert h; decide
  have h3' : ¬ v = 3 := by intro z; subst z; revert h; decide
  have h4' : ¬ v = 4 := by intro z; subst z; revert h; decide
  refine br_f (nI_pos (by omega)) (br_t (nI_lt hs (by omega)) (br_f h0' (br_f h1' (br_f h2' (br_f h3' (br_f h4' (br_c (fun _ => k) (fun h5 => br_f ?_ k))))))))
  intro z
  rcases h with h | h
  · rw [lf_lt] at h h5
    rw [show (0 : Int32).toInt = 0 from by decide] at h
    rw [show (5 : Int32).toInt = 5 from by decide] at h5
    omega
  · exact absurd z (Int32.not_le.mpr h)

theorem lz_stmtInfo {P : Prop} (hns : ns ≤ 12) (hSR : lf_SR ns sk sa sc sv kd ar co va dA dC dO) (hR : P) (v w : Int32) : wpX_stmtInfo (fun r => wpY_stmtInfo (fun r' => r' = r ∧ P) (nI na, nI n, nI nl, nI ns, ph, gY, rc, tmp, con, lLo, lHi, lF, lC, yg, yj, yd, sl, so, dA, dC, dO, kd, ar, co, va, ini, ori, fus, sca) v w) (nI na, nI n, ph, nI nl, nI ns, gX, rc, tmp, con, sca, ini, ori, fus, lLo, lHi, lF, lC, xg, xj, xd, gf, gl, sl, so, sk, sa, sc, sv) v w := by
  refine br_c (fun h => br_t h ⟨rfl, hR⟩) (fun h0 => br_c (fun h1 => ?_) (fun h1 => br_f h0 (br_f h1 ⟨rfl, hR⟩)))
  obtain ⟨s, hs1, rfl⟩ := ly_rng (by omega) h0 h1
  have hS := hSR s hs1
  have hi : vp_in (nI s) 12 := vp_in_nI (by omega) (by decide)
  have e1 : (nI s).toNatClampNeg = s := nI_clamp (by omega)
  have i0 : vp_in (nI (3 * s)) 36 := vp_in_nI (by omega) (by decide)
  have e0 : (nI (3 * s)).toNatClampNeg = 3 * s := nI_clamp (by omega)
  have i1 : vp_in (nI (3 * s) + 1) 36 := by rw [nI_1]; exact vp_in_nI (by omega) (by decide)
  have e3 : (nI (3 * s) + 1).toNatClampNeg = 3 * s + 1 := by rw [nI_1]; exact nI_clamp (by omega)
  have i2 : vp_in (nI (3 * s) + 2) 36 := by rw [lf_a2]; exact vp_in_nI (by omega) (by decide)
  have e2 : (nI (3 * s) + 2).toNatClampNeg = 3 * s + 2 := by rw [lf_a2]; exact nI_clamp (by omega)
  have hq0 : vp_in (nI (2 * s + 0)) 24 := vp_in_nI (by omega) (by decide)
  have hq1 : vp_in (nI (2 * s + 1)) 24 := vp_in_nI (by omega) (by decide)
  have eq0 : (nI (2 * s + 0)).toNatClampNeg = 2 * s := nI_clamp (by omega)
  have eq1 : (nI (2 * s + 1)).toNatClampNeg = 2 * s + 1 := nI_clamp (by omega)
  refine nm_r (lf_m3 s) (br_c (fun h => ly_si_o hns hs1 (Or.inl h) ⟨rfl, hR⟩) (fun _ => br_c (fun h => ly_si_o hns hs1 (Or.inr h) ⟨rfl, hR⟩) (fun _ => br_c (fun e => ⟨hi, ?_⟩) (fun _ => br_c (fun e => ⟨hi, ?_⟩) (fun _ => br_c (fun e => ⟨i2, ?_⟩) (fun _ => br_c (fun e => ⟨i2, ?_⟩) (fun _ => br_c (fun e => ⟨i2, ?_⟩) (fun _ => br_c (fun e => ⟨i0, ?_⟩) (fun _ => br_c (fun e => ⟨i0, ?_⟩) (fun _ => br_c (fun e => ⟨i0, ?_⟩) (fun _ => br_c (fun e => ⟨i0, ?_⟩) (fun _ => br_c (fun e => ⟨i1, ?_⟩) (fun _ => br_c (fun e => ⟨i1, ?_⟩) (fun _ => br_c (fun e => ⟨i1, ?_⟩) (fun _ => br_c (fun e => ⟨i1, ?_⟩) (fun _ => trivial))))))))))))))))
  · subst e
    rw [e1]
    exact br_f (nI_pos (by omega)) (br_t (nI_lt hs1 (by omega)) (br_t rfl (⟨hi, by rw [e1], hR⟩)))
  · subst e
    rw [e1]
    exact br_f (nI_pos (by omega)) (br_t (nI_lt hs1 (by omega)) (br_f (by decide) (br_t rfl (⟨hi, by rw [e1], hR⟩))))
  · subst e
    rw [e2]
    exact br_f (nI_pos (by omega)) (br_t (nI_lt hs1 (by omega)) (br_f (by decide) (br_f (by decide) (br_t rfl (⟨hi, by rw [e1]; first | rfl | exact (hS.2.2.2.1).symm, hR⟩)))))
  · subst e
    rw [e2]
    exact br_f (nI_pos (by omega)) (br_t (nI_lt hs1 (by omega)) (br_f (by decide) (br_f (by decide) (br_f (by decide) (br_t rfl (⟨hi, by rw [e1]; first | rfl | exact (hS.2.2.2.2.1).symm, hR⟩))))))
  · subst e
    rw [e2]
    exact br_f (nI_pos (by omega)) (br_t (nI_lt hs1 (by omega)) (br_f (by decide) (br_f (by decide) (br_f (by decide) (br_f (by decide) (br_t rfl (⟨hi, by rw [e1]; first | rfl | exact (hS.2.2.2.2.2).symm, hR⟩)))))))
  · subst e
    rw [e0]
    exact br_f (nI_pos (by omega)) (br_t (nI_lt hs1 (by omega)) (br_f (by decide) (br_f (by decide) (br_f (by decide) (br_f (by decide) (br_f (by decide) (br_f (by decide) (br_t (by decide) (⟨by decide, nm_r (show nI s * 2 + ((5 : Int32) - 5) / 4 = nI (2 * s + 0) from by rw [show ((5 : Int32) - 5) / 4 = nI 0 from by decide, lf_m2, nI_add]) ⟨by decide, nm_r (show ((5 : Int32) - 5) - ((5 : Int32) - 5) / 4 * 4 = 0 from by decide) (br_t (by decide) (⟨hq0, by rw [eq0]; exact (hS.1.1).symm, hR⟩))⟩⟩)))))))))
  · subst e
    rw [e0]
    exact br_f (nI_pos (by omega)) (br_t (nI_lt hs1 (by omega)) (br_f (by decide) (br_f (by decide) (br_f (by decide) (br_f (by decide) (br_f (by decide) (br_f (by decide) (br_t (by decide) (⟨by decide, nm_r (show nI s * 2 + ((6 : Int32) - 5) / 4 = nI (2 * s + 0) from by rw [show ((6 : Int32) - 5) / 4 = nI 0 from by decide, lf_m2, nI_add]) ⟨by decide, nm_r (show ((6 : Int32) - 5) - ((6 : Int32) - 5) / 4 * 4 = 1 from by decide) (br_f (by decide) (br_t (by decide) (⟨hq0, by rw [eq0]; exact (hS.1.2.1).symm, hR⟩)))⟩⟩)))))))))
  · subst e
    rw [e0]
    exact br_f (nI_pos (by omega)) (br_t (nI_lt hs1 (by omega)) (br_f (by decide) (br_f (by decide) (br_f (by decide) (br_f (by decide) (br_f (by decide) (br_f (by decide) (br_t (by decide) (⟨by decide, nm_r (show nI s * 2 + ((7 : Int32) - 5) / 4 = nI (2 * s + 0) from by rw [show ((7 : Int32) - 5) / 4 = nI 0 from by decide, lf_m2, nI_add]) ⟨by decide, nm_r (show ((7 : Int32) - 5) - ((7 : Int32) - 5) / 4 * 4 = 2 from by decide) (br_f (by decide) (br_f (by decide) (br_t (by decide) (⟨hq0, by rw [eq0]; exact (hS.1.2.2.1).symm, hR⟩))))⟩⟩)))))))))
  · subst e
    rw [e0]
    exact br_f (nI_pos (by omega)) (br_t (nI_lt hs1 (by omega)) (br_f (by decide) (br_f (by decide) (br_f (by decide) (br_f (by decide) (br_f (by decide) (br_f (by decide) (br_t (by decide) (⟨by decide, nm_r (show nI s * 2 + ((8 : Int32) - 5) / 4 = nI (2 * s + 0) from by rw [show ((8 : Int32) - 5) / 4 = nI 0 from by decide, lf_m2, nI_add]) ⟨by decide, nm_r (show ((8 : Int32) - 5) - ((8 : Int32) - 5) / 4 * 4 = 3 from by decide) (br_f (by decide) (br_f (by decide) (br_f (by decide) (⟨hq0, by rw [eq0]; exact (hS.1.2.2.2).symm, hR⟩))))⟩⟩)))))))))
  · subst e
    rw [e3]
    exact br_f (nI_pos (by omega)) (br_t (nI_lt hs1 (by omega)) (br_f (by decide) (br_f (by decide) (br_f (by decide) (br_f (by decide) (br_f (by decide) (br_f (by decide) (br_t (by decide) (⟨by decide, nm_r (show nI s * 2 + ((9 : Int32) - 5) / 4 = nI (2 * s + 1) from by rw [show ((9 : Int32) - 5) / 4 = nI 1 from by decide, lf_m2, nI_add]) ⟨by decide, nm_r (show ((9 : Int32) - 5) - ((9 : Int32) - 5) / 4 * 4 = 0 from by decide) (br_t (by decide) (⟨hq1, by rw [eq1]; exact (hS.2.1.1).symm, hR⟩))⟩⟩)))))))))
  · subst e
    rw [e3]
    exact br_f (nI_pos (by omega)) (br_t (nI_lt hs1 (by omega)) (br_f (by decide) (br_f (by decide) (br_f (by decide) (br_f (by decide) (br_f (by decide) (br_f (by decide) (br_t (by decide) (⟨by decide, nm_r (show nI s * 2 + ((10 : Int32) - 5) / 4 = nI (2 * s + 1) from by rw [show ((10 : Int32) - 5) / 4 = nI 1 from by decide, lf_m2, nI_add]) ⟨by decide, nm_r (show ((10 : Int32) - 5) - ((10 : Int32) - 5) / 4 * 4 = 1 from by decide) (br_f (by decide) (br_t (by decide) (⟨hq1, by rw [eq1]; exact (hS.2.1.2.1).symm, hR⟩)))⟩⟩)))))))))
  · subst e
    rw [e3]
    exact br_f (nI_pos (by omega)) (br_t (nI_lt hs1 (by omega)) (br_f (by decide) (br_f (by decide) (br_f (by decide) (br_f (by decide) (br_f (by decide) (br_f (by decide) (br_t (by decide) (⟨by decide, nm_r (show nI s * 2 + ((11 : Int32) - 5) / 4 = nI (2 * s + 1) from by rw [show ((11 : Int32) - 5) / 4 = nI 1 from by decide, lf_m2, nI_add]) ⟨by decide, nm_r (show ((11 : Int32) - 5) - ((11 : Int32) - 5) / 4 * 4 = 2 from by decide) (br_f (by decide) (br_f (by decide) (br_t (by decide) (⟨hq1, by rw [eq1]; exact (hS.2.1.2.2.1).symm, hR⟩))))⟩⟩)))))))))
  · subst e
    rw [e3]
    exact br_f (nI_pos (by omega)) (br_t (nI_lt hs1 (by omega)) (br_f (by decide) (br_f (by decide) (br_f (by decide) (br_f (by decide) (br_f (by decide) (br_f (by decide) (br_t (by decide) (⟨by decide, nm_r (show nI s * 2 + ((12 : Int32) - 5) / 4 = nI (2 * s + 1) from by rw [show ((12 : Int32) - 5) / 4 = nI 1 from by decide, lf_m2, nI_add]) ⟨by decide, nm_r (show ((12 : Int32) - 5) - ((12 : Int32) - 5) / 4 * 4 = 3 from by decide) (br_f (by decide) (br_f (by decide) (br_f (by decide) (⟨hq1, by rw [eq1]; exact (hS.2.1.2.2.2).symm, hR⟩))))⟩⟩)))))))))

theorem i_vc_stmtInfo {k : Nat} {u : SX} {v : SY} (I : i_Rel k u v) (hk : k + 5 ≤ 2562) (v1 : Int32) (v2 : Int32) : wpX_stmtInfo (fun r => wpY_stmtInfo (fun r' => r' = r ∧ i_Rel (k + 5) u v) v v1 v2) u v1 v2 := by
  have hR : i_Rel (k + 5) u v := I
  obtain ⟨na, n, nl, ns, F, L, Lo, Hi, ph, gX, gY, rc, tmp, con, sca, ini, ori, fus, lLo, lHi, lF, lC, xg, xj, xd, gf, gl, sl, so, sk, sa, sc, sv, yg, yj, yd, dA, dC, dO, kd, ar, co, va, rfl, rfl, hB, hs, hP⟩ := I
  exact lz_stmtInfo hB.1.2.2.2.2.2 hB.2.2.2.2.1 hR v1 v2

theorem lz_arrayInfo {P : Prop} (hna : na ≤ 6) (hR : P) (v w : Int32) : wpX_arrayInfo (fun r => wpY_arrayInfo (fun r' => r' = r ∧ P) (nI na, nI n, nI nl, nI ns, ph, gY, rc, tmp, con, lLo, lHi, lF, lC, yg, yj, yd, sl, so, dA, dC, dO, kd, ar, co, va, ini, ori, fus, sca) v w) (nI na, nI n, ph, nI nl, nI ns, gX, rc, tmp, con, sca, ini, ori, fus, lLo, lHi, lF, lC, xg, xj, xd, gf, gl, sl, so, sk, sa, sc, sv) v w := by
  unfold wpX_arrayInfo
  by_cases h : ∃ a, a < na ∧ v = nI a
  · obtain ⟨a, ha, rfl⟩ := h
    have hi : vp_in (nI a) 6 := vp_in_nI (by omega) (by decide)
    have y : ∀ post : Int32 → Prop, _ → wpY_arrayInfo post (nI na, nI n, nI nl, nI ns, ph, gY, rc, tmp, con, lLo, lHi, lF, lC, yg, yj, yd, sl, so, dA, dC, dO, kd, ar, co, va, ini, ori, fus, sca) (nI a) w := fun post z => br_f (nI_pos (by omega)) (br_t (nI_lt ha (by omega)) z)
    refine lx_isArr1 ha hna (br_f lf_10 (br_c (fun e => ⟨hi, br_c (fun z => ?_) (fun z => ?_)⟩) (fun e => br_c (fun e2 => ⟨hi, br_c (fun z => ?_) (fun z => ?_)⟩) (fun e2 => ?_))))
    · exact y _ (br_t e ⟨hi, br_t z ⟨rfl, hR⟩⟩)
    · exact y _ (br_t e ⟨hi, br_f z ⟨rfl, hR⟩⟩)
    · exact y _ (br_f e (br_t e2 ⟨hi, br_t z ⟨rfl, hR⟩⟩))
    · exact y _ (br_f e (br_t e2 ⟨hi, br_f z ⟨rfl, hR⟩⟩))
    · exact y _ (br_f e (br_f e2 ⟨rfl, hR⟩))
  · exact lx_isArr0 h hna (br_t rfl (br_c (fun _ => ⟨rfl, hR⟩) (fun h0 => br_c (fun h1 => absurd (ly_rng (by omega) h0 h1) h) (fun _ => ⟨rfl, hR⟩))))

theorem i_vc_arrayInfo {k : Nat} {u : SX} {v : SY} (I : i_Rel k u v) (hk : k + 5 ≤ 2562) (v1 : Int32) (v2 : Int32) : wpX_arrayInfo (fun r => wpY_arrayInfo (fun r' => r' = r ∧ i_Rel (k + 5) u v) v v1 v2) u v1 v2 := by
  have hR : i_Rel (k + 5) u v := I
  obtain ⟨na, n, nl, ns, F, L, Lo, Hi, ph, gX, gY, rc, tmp, con, sca, ini, ori, fus, lLo, lHi, lF, lC, xg, xj, xd, gf, gl, sl, so, sk, sa, sc, sv, yg, yj, yd, dA, dC, dO, kd, ar, co, va, rfl, rfl, hB, hs, hP⟩ := I
  exact lz_arrayInfo hB.1.2.1 hR v1 v2

theorem lf_R0 {k a b : Nat} (h1 : 2 ≤ a) (h2 : a ≤ 6) (h3 : 4 ≤ b) (h4 : b ≤ 16) : i_Rel k (nI a, nI b, 0, 0, 0, 0, 0, (fun _ => 0), (fun _ => 0), (fun _ => 0), (fun _ => 0), (fun _ => 0), (fun _ => 0), (fun _ => 0), (fun _ => 0), (fun _ => 0), (fun _ => 0), (fun _ => 0), (fun _ => 0), (fun _ => 0), (fun _ => 0), (fun _ => 0), (fun _ => 0), (fun _ => 0), (fun _ => 0), (fun _ => 0), (fun _ => 0), (fun _ => 0)) (nI a, nI b, 0, 0, 0, 0, 0, (fun _ => 0), (fun _ => 0), (fun _ => 0), (fun _ => 0), (fun _ => 0), (fun _ => 0), (fun _ => 0), (fun _ => 0), (fun _ => 0), (fun _ => 0), (fun _ => 0), (fun _ => 0), (fun _ => 0), (fun _ => 0), (fun _ => 0), (fun _ => 0), (fun _ => 0), (fun _ => 0), (fun _ => 0), (fun _ => 0), (fun _ => 0), (fun _ => 0)) :=
  lf_mk (na := a) (n := b) (nl := 0) (ns := 0) (F := fun _ => 0) (L := fun _ => 0) (Lo := fun _ => 0) (Hi := fun _ => 0)
    ⟨⟨h1, h2, h3, h4, by omega, by omega⟩, lf_PT_0, fun l hl => absurd hl (by omega), fun s hs => absurd hs (by omega), fun s hs => absurd hs (by omega), fun z hz => absurd hz (by omega)⟩ (fun _ _ => rfl) (Or.inl ⟨rfl, rfl, rfl, fun l hl => absurd hl (by omega)⟩)
theorem ly_init202 {k b c : Nat} {p : Int32} (h1 : 2 ≤ b) (h2 : b ≤ 6) (h3 : 4 ≤ c) (h4 : c ≤ 16) (hc : (nI 4 ≤ p → p ≤ nI 16 → p = nI c) ∧ (¬ nI 4 ≤ p → c = 4) ∧ (nI 4 ≤ p → ¬ p ≤ nI 16 → c = 16)) :
    wY_init_202 (fun v => i_Rel k (nI b, nI c, 0, 0, 0, 0, 0, (fun _ => 0), (fun _ => 0), (fun _ => 0), (fun _ => 0), (fun _ => 0), (fun _ => 0), (fun _ => 0), (fun _ => 0), (fun _ => 0), (fun _ => 0), (fun _ => 0), (fun _ => 0), (fun _ => 0), (fun _ => 0), (fun _ => 0), (fun _ => 0), (fun _ => 0), (fun _ => 0), (fun _ => 0), (fun _ => 0), (fun _ => 0)) v) p (nI b) 0 0 0 0 0 0 0 (fun _ => 0) (fun _ => 0) (fun _ => 0) (fun _ => 0) (fun _ => 0) (fun _ => 0) (fun _ => 0) (fun _ => 0) (fun _ => 0) (fun _ => 0) (fun _ => 0) (fun _ => 0) (fun _ => 0) (fun _ => 0) (fun _ => 0) (fun _ => 0) (fun _ => 0) (fun _ => 0) (fun _ => 0) (fun _ => 0) (fun _ => 0) (fun _ => 0) := by
  refine br_c (fun h => br_c (fun h' => ?_) (fun h' => ?_)) (fun h => ?_)
  · rw [hc.1 h h']; exact lf_R0 h1 h2 h3 h4
  · obtain rfl := hc.2.2 h h'; exact lf_R0 h1 h2 h3 h4
  · obtain rfl := hc.2.1 h; exact lf_R0 h1 h2 h3 h4
theorem i_vc0 (k0 : Int32) (k1 : Int32) : wpX_init (fun u => wpY_init (fun v => i_Rel 2 u v) k0 k1) k0 k1 := by
  unfold wpX_init
  refine lx_clamp (a := 2) (b := 6) (by decide) (by decide) (fun a h1 h2 ha => ?_)
  refine lx_clamp (a := 4) (b := 16) (by decide) (by decide) (fun b h3 h4 hb => ?_)
  refine br_c (fun h => br_c (fun h' => ?_) (fun h' => ?_)) (fun h => ?_)
  · rw [ha.1 h h']; exact ly_init202 h1 h2 h3 h4 hb
  · obtain rfl := ha.2.2 h h'; exact ly_init202 h1 h2 h3 h4 hb
  · obtain rfl := ha.2.1 h; exact ly_init202 h1 h2 h3 h4 hb

end LFU
