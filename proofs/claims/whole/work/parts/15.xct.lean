section LFA2
variable {na n nl ns : Nat} {ph gX gY rc : Int32} {tmp con sca ini ori fus lLo lHi lF lC xg xj xd gf gl sl so sk sa sc sv yg yj yd dA dC dO kd ar co va : Nat → Int32} {F L Lo Hi G gp : Nat → Nat}
/-! placing a loop: the component -/
theorem lx_p77 {post : SX → Prop} {k g : Nat} {d j : Int32} (hk : k < 8) (hg0 : 0 < g) (hg : g ≤ 8)
    (K : post (nI na, nI n, ph, nI nl, nI ns, nI g, rc, tmp, con, sca, ini, ori, fus, lLo, lHi, lF, lC, upd xg k (nI (g - 1)), upd xj k j, upd xd k d, gf, upd gl (g - 1) (gl (g - 1) + 1), sl, so, sk, sa, sc, sv)) : wX_placeLoop_77 post (nI k) d j (nI na) (nI n) ph (nI nl) (nI ns) (nI g) rc tmp con sca ini ori fus lLo lHi lF lC xg xj xd gf gl sl so sk sa sc sv := by
  have e1 : (nI g - 1).toNatClampNeg = g - 1 := by rw [lf_p1 hg0]; exact nI_clamp (by omega)
  have i1 : vp_in (nI g - 1) 8 := by rw [lf_p1 hg0]; exact vp_in_nI (by omega) (by decide)
  have i3 : vp_in (nI k) 8 := vp_in_nI (by omega) (by decide)
  have e3 : (nI k).toNatClampNeg = k := nI_clamp (by omega)
  exact ⟨i1, i1, nm_r (by rw [e1]) ⟨i3, nm_r (by rw [e3, lf_p1 hg0]) ⟨i3, nm_r (by rw [e3]) ⟨i3, nm_r (by rw [e3]) K⟩⟩⟩⟩
theorem lx_pnew {post : SX → Prop} {k g : Nat} {d j : Int32} (hk : k < 8) (hg : g < 8) (hj : ¬ j = 1)
    (K : post (nI na, nI n, ph, nI nl, nI ns, nI (g + 1), rc, tmp, con, sca, ini, ori, fus, lLo, lHi, lF, lC, upd xg k (nI g), upd xj k j, upd xd k d, upd gf g (nI k), upd (upd gl g 0) g (upd gl g 0 g + 1), sl, so, sk, sa, sc, sv)) : wX_placeLoop_42 post (nI k) d j (nI na) (nI n) ph (nI nl) (nI ns) (nI g) rc tmp con sca ini ori fus lLo lHi lF lC xg xj xd gf gl sl so sk sa sc sv := by
  have i1 : vp_in (nI g) 8 := vp_in_nI (by omega) (by decide)
  have e1 : (nI g).toNatClampNeg = g := nI_clamp (by omega)
  refine br_f hj ⟨i1, nm_r (by rw [e1]) ⟨i1, nm_r (by rw [e1]) (nm_r (nI_1 g) ?_)⟩⟩
  exact lx_p77 hk (by omega) (by omega) K
theorem lx_bounds {post : Int32 → Prop} {k : Nat} (h0 : 0 < k) (hk : k < nl) (hnl : nl ≤ 8) (hLP : lf_LP nl F Lo Hi lLo lHi lF lC) (f : (Lo k = Lo (k - 1) ∧ Hi k = Hi (k - 1)) → post 1) (g : ¬ (Lo k = Lo (k - 1) ∧ Hi k = Hi (k - 1)) → post 0) : wpX_hasBoundsOf post (nI na, nI n, ph, nI nl, nI ns, gX, rc, tmp, con, sca, ini, ori, fus, lLo, lHi, lF, lC, xg, xj, xd, gf, gl, sl, so, sk, sa, sc, sv) (nI k) (nI k - 1) := by
  rw [lf_p1 h0]
  have i1 : vp_in (nI k) 8 := vp_in_nI (by omega) (by decide)
  have e1 : (nI k).toNatClampNeg = k := nI_clamp (by omega)
  have i2 : vp_in (nI (k - 1)) 8 := vp_in_nI (by omega) (by decide)
  have e2 : (nI (k - 1)).toNatClampNeg = k - 1 := nI_clamp (by omega)
  obtain ⟨a1, a2, a3, a4, _⟩ := hLP k hk
  obtain ⟨b1, b2, b3, b4, _⟩ := hLP (k - 1) (by omega)
  refine ⟨i1, i2, br_c (fun h => ⟨i1, i2, br_c (fun h' => f ?_) (fun h' => g ?_)⟩) (fun h => g ?_)⟩
  · rw [e1, e2, a1, b1, nI_eq (by omega) (by omega)] at h
    rw [e1, e2, a2, b2, nI_eq (by omega) (by omega)] at h'
    exact ⟨h, h'⟩
  · rw [e1, e2, a2, b2, nI_eq (by omega) (by omega)] at h'
    exact fun z => h' z.2
  · rw [e1, e2, a1, b1, nI_eq (by omega) (by omega)] at h
    exact fun z => h z.1
theorem lx_placeA {post : SX → Prop} (K : post (nI na, nI n, ph, nI nl, nI ns, nI (0 + 1), rc, tmp, con, sca, ini, ori, fus, lLo, lHi, lF, lC, upd xg 0 (nI 0), upd xj 0 0, upd xd 0 1000, upd gf 0 (nI 0), upd (upd gl 0 0) 0 (upd gl 0 0 0 + 1), sl, so, sk, sa, sc, sv)) : wpX_placeLoop post (nI na, nI n, ph, nI nl, nI ns, nI 0, rc, tmp, con, sca, ini, ori, fus, lLo, lHi, lF, lC, xg, xj, xd, gf, gl, sl, so, sk, sa, sc, sv) (nI 0) :=
  br_t (lf_rfl _) (lx_pnew (g := 0) (by decide) (by decide) lf_01 K)
theorem lf_21 : ¬ (2 : Int32) = 1 := by decide
theorem lf_31 : ¬ (3 : Int32) = 1 := by decide
theorem lx_placeB {post : SX → Prop} {k g : Nat} (h0 : 0 < k) (hk : k < nl) (hnl : nl ≤ 8) (hg : g < 8) (hLP : lf_LP nl F Lo Hi lLo lHi lF lC) (hb : ¬ (Lo k = Lo (k - 1) ∧ Hi k = Hi (k - 1)))
    (K : post (nI na, nI n, ph, nI nl, nI ns, nI (g + 1), rc, tmp, con, sca, ini, ori, fus, lLo, lHi, lF, lC, upd xg k (nI g), upd xj k 2, upd xd k 1000, upd gf g (nI k), upd (upd gl g 0) g (upd gl g 0 g + 1), sl, so, sk, sa, sc, sv)) : wpX_placeLoop post (nI na, nI n, ph, nI nl, nI ns, nI g, rc, tmp, con, sca, ini, ori, fus, lLo, lHi, lF, lC, xg, xj, xd, gf, gl, sl, so, sk, sa, sc, sv) (nI k) := by
  refine br_f (nI_nle h0 (by omega)) ?_
  exact lx_bounds h0 hk hnl hLP (fun z => absurd z hb) (fun _ => br_t rfl (lx_pnew (by omega) hg lf_21 K))
theorem lx_placeC {post : SX → Prop} {k g : Nat} {r : Int32} (hB : lf_B na n nl ns F L Lo Hi lLo lHi lF lC sl sk sa sc sv kd ar co va dA dC dO) (hG : lf_G k g G gp xg gf gl yg) (h0 : 0 < k) (hk : k < nl) (hb : Lo k = Lo (k - 1) ∧ Hi k = Hi (k - 1))
    (hr : lf_gl (lf_D n (Lo k) (Hi k) sk sa sc sv) (fun a b => 3 * F (G (g - 1)) ≤ a ∧ a < 3 * F k ∧ 3 * F k ≤ b ∧ b < 3 * F (k + 1)) r) (hr0 : ¬ 0 ≤ r)
    (K : post (nI na, nI n, ph, nI nl, nI ns, nI (g + 1), rc, tmp, con, sca, ini, ori, fus, lLo, lHi, lF, lC, upd xg k (nI g), upd xj k 3, upd xd k r, upd gf g (nI k), upd (upd gl g 0) g (upd gl g 0 g + 1), sl, so, sk, sa, sc, sv)) : wpX_placeLoop post (nI na, nI n, ph, nI nl, nI ns, nI g, rc, tmp, con, sca, ini, ori, fus, lLo, lHi, lF, lC, xg, xj, xd, gf, gl, sl, so, sk, sa, sc, sv) (nI k) := by
  have hnl := hB.1.2.2.2.2.1
  have hg : g ≤ k := lf_PT_sn hG.1 (fun a ha => (hG.2.1 a ha).1)
  refine br_f (nI_nle h0 (by omega)) ?_
  refine lx_bounds h0 hk hnl hB.2.2.1 (fun _ => br_f lf_10 ?_) (fun z => absurd hb z)
  refine lx_ld hB hG h0 hk hr ?_
  exact br_f hr0 (lx_pnew (by omega) (by omega) lf_31 K)
theorem lx_placeD {post : SX → Prop} {k g : Nat} {r : Int32} (hB : lf_B na n nl ns F L Lo Hi lLo lHi lF lC sl sk sa sc sv kd ar co va dA dC dO) (hG : lf_G k g G gp xg gf gl yg) (h0 : 0 < k) (hk : k < nl) (hb : Lo k = Lo (k - 1) ∧ Hi k = Hi (k - 1))
    (hr : lf_gl (lf_D n (Lo k) (Hi k) sk sa sc sv) (fun a b => 3 * F (G (g - 1)) ≤ a ∧ a < 3 * F k ∧ 3 * F k ≤ b ∧ b < 3 * F (k + 1)) r) (hr0 : 0 ≤ r)
    (K : post (nI na, nI n, ph, nI nl, nI ns, nI g, rc, tmp, con, sca, ini, ori, fus, lLo, lHi, lF, lC, upd xg k (nI (g - 1)), upd xj k 1, upd xd k r, gf, upd gl (g - 1) (gl (g - 1) + 1), sl, so, sk, sa, sc, sv)) : wpX_placeLoop post (nI na, nI n, ph, nI nl, nI ns, nI g, rc, tmp, con, sca, ini, ori, fus, lLo, lHi, lF, lC, xg, xj, xd, gf, gl, sl, so, sk, sa, sc, sv) (nI k) := by
  have hnl := hB.1.2.2.2.2.1
  have hg : g ≤ k := lf_PT_sn hG.1 (fun a ha => (hG.2.1 a ha).1)
  have hg0 : 0 < g := by have := (hG.1.2.2.2 0 h0).1; omega
  refine br_f (nI_nle h0 (by omega)) ?_
  refine lx_bounds h0 hk hnl hB.2.2.1 (fun _ => br_f lf_10 ?_) (fun z => absurd hb z)
  refine lx_ld hB hG h0 hk hr ?_
  exact br_t hr0 (br_t rfl (lx_p77 (by omega) hg0 (by omega) K))
/-! contraction: the component -/
theorem lx_accOf {post : Int32 → Prop} {x z : Nat} (hz : z < 36) (f : lf_acc sk sa x z → post 1) (g : ¬ lf_acc sk sa x z → post 0) : wpX_isAccessOf post (nI na, nI n, ph, nI nl, nI ns, gX, rc, tmp, con, sca, ini, ori, fus, lLo, lHi, lF, lC, xg, xj, xd, gf, gl, sl, so, sk, sa, sc, sv) (nI x) (nI z) := by
  have e : (nI z).toNatClampNeg = z := nI_clamp (by omega)
  have i : vp_in (nI z) 36 := vp_in_nI hz (by decide)
  refine ⟨i, br_c (fun h => ⟨i, br_c (fun h2 => f ?_) (fun h2 => g ?_)⟩) (fun h => g ?_)⟩
  · rw [e] at h h2; exact ⟨h, h2⟩
  · rw [e] at h2; exact fun z => h2 z.2
  · rw [e] at h; exact fun z => h z.1
theorem lx_first {post : Int32 → Prop} {x : Nat} (hns : ns ≤ 12) (f : ∀ z, z < 3 * ns → lf_acc sk sa x z → (∀ y, y < z → ¬ lf_acc sk sa x y) → post (nI z)) (g : (∀ z, z < 3 * ns → ¬ lf_acc sk sa x z) → post (-1)) : wpX_firstAccess post (nI na, nI n, ph, nI nl, nI ns, gX, rc, tmp, con, sca, ini, ori, fus, lLo, lHi, lF, lC, xg, xj, xd, gf, gl, sl, so, sk, sa, sc, sv) (nI x) := by
  have H : ∀ d z, z + d = 3 * ns → (∀ y, y < z → ¬ lf_acc sk sa x y) → wX_firstAccess_2 post (nI x) (nI na) (nI n) ph (nI nl) (nI ns) gX rc tmp con sca ini ori fus lLo lHi lF lC xg xj xd gf gl sl so sk sa sc sv (d + 1) (nI z) := by
    intro d
    induction d with
    | zero =>
      intro z h h1
      obtain rfl : z = 3 * ns := by omega
      exact br_t (by rw [lf_m3]; exact lf_rfl _) (g h1)
    | succ d ih =>
      intro z h h1
      refine br_f (by rw [lf_m3]; exact nI_ge (by omega) (by omega)) ?_
      refine lx_accOf (by omega) (fun h2 => br_f lf_10 (f z (by omega) h2 h1)) (fun h2 => br_t rfl (nm_r (nI_1 z) (ih (z + 1) (by omega) ?_)))
      intro y hy
      by_cases e : y = z
      · subst e; exact h2
      · exact h1 y (by omega)
  exact ⟨3 * ns + 1, H (3 * ns) 0 (by omega) (fun y hy => absurd hy (by omega))⟩
theorem lx_mat {post : Int32 → Prop} {g z f : Nat} (hns : ns ≤ 12) (hnl : nl ≤ 8) (hPT : lf_PT F L nl ns) (hsl : ∀ s, s < ns → sl s = nI (L s)) (hG : lf_G nl g G gp xg gf gl yg) (hz : z < 3 * ns) (hf : f < 3 * ns)
    (a : lf_mat L gp sc sv z f → post 1) (b : ¬ lf_mat L gp sc sv z f → post 0) : wpX_matches post (nI na, nI n, ph, nI nl, nI ns, gX, rc, tmp, con, sca, ini, ori, fus, lLo, lHi, lF, lC, xg, xj, xd, gf, gl, sl, so, sk, sa, sc, sv) (nI z) (nI f) := by
  have hg : g ≤ nl := lf_PT_sn hG.1 (fun a ha => (hG.2.1 a ha).1)
  have l1 := (hPT.2.2.2 (z / 3) (by omega)).1
  have l2 := (hPT.2.2.2 (f / 3) (by omega)).1
  have g1 := (hG.1.2.2.2 _ l1).1
  have g2 := (hG.1.2.2.2 _ l2).1
  have c1 := (hG.2.2 _ l1).1
  have c2 := (hG.2.2 _ l2).1
  have dz : nI z / 3 = nI (z / 3) := lf_d3 (by omega)
  have df : nI f / 3 = nI (f / 3) := lf_d3 (by omega)
  have iz : vp_in (nI z) 36 := vp_in_nI (by omega) (by decide)
  have jf : vp_in (nI f) 36 := vp_in_nI (by omega) (by decide)
  have ez : (nI z).toNatClampNeg = z := nI_clamp (by omega)
  have ef : (nI f).toNatClampNeg = f := nI_clamp (by omega)
  have el1 : (nI (L (z / 3))).toNatClampNeg = L (z / 3) := nI_clamp (by omega)
  have el2 : (nI (L (f / 3))).toNatClampNeg = L (f / 3) := nI_clamp (by omega)
  refine ⟨lf_30, by rw [dz]; exact vp_in_nI (by omega) (by decide), nm_r (e' := nI (L (z / 3))) (by rw [dz, nI_clamp (by omega)]; exact hsl _ (by omega)) ⟨lf_30, by rw [df]; exact vp_in_nI (by omega) (by decide), nm_r (e' := nI (L (f / 3))) (by rw [df, nI_clamp (by omega)]; exact hsl _ (by omega)) ⟨vp_in_nI (by omega) (by decide), vp_in_nI (by omega) (by decide), br_c (fun h => ⟨iz, jf, br_c (fun h1 => ⟨iz, jf, br_c (fun h2 => a ?_) (fun h2 => b ?_)⟩) (fun h1 => b ?_)⟩) (fun h => b ?_)⟩⟩⟩
  · rw [el1, el2, c1, c2, nI_eq (by omega) (by omega)] at h
    rw [ez, ef] at h1 h2
    exact ⟨h, h1, h2⟩
  · rw [ez, ef] at h2
    exact fun q => h2 q.2.2
  · rw [ez, ef] at h1
    exact fun q => h1 q.2.1
  · rw [el1, el2, c1, c2, nI_eq (by omega) (by omega)] at h
    exact fun q => h q.1
theorem lx_allm {post : Int32 → Prop} {g x f : Nat} (hns : ns ≤ 12) (hnl : nl ≤ 8) (hPT : lf_PT F L nl ns) (hsl : ∀ s, s < ns → sl s = nI (L s)) (hG : lf_G nl g G gp xg gf gl yg) (hf : f < 3 * ns) (h1 : ∀ z, z < f → ¬ lf_acc sk sa x z)
    (a : (∀ z, z < 3 * ns → lf_acc sk sa x z → lf_mat L gp sc sv z f) → post 1) (b : ¬ (∀ z, z < 3 * ns → lf_acc sk sa x z → lf_mat L gp sc sv z f) → post 0) : wpX_allAccessesMatch post (nI na, nI n, ph, nI nl, nI ns, gX, rc, tmp, con, sca, ini, ori, fus, lLo, lHi, lF, lC, xg, xj, xd, gf, gl, sl, so, sk, sa, sc, sv) (nI x) (nI f) := by
  have H : ∀ d z, z + d = 3 * ns → (∀ y, y < z → lf_acc sk sa x y → lf_mat L gp sc sv y f) → wX_allAccessesMatch_2 post (nI x) (nI f) (nI na) (nI n) ph (nI nl) (nI ns) gX rc tmp con sca ini ori fus lLo lHi lF lC xg xj xd gf gl sl so sk sa sc sv (d + 1) (nI z) := by
    intro d
    induction d with
    | zero =>
      intro z h h2
      obtain rfl : z = 3 * ns := by omega
      exact br_t (by rw [lf_m3]; exact lf_rfl _) (a h2)
    | succ d ih =>
      intro z h h2
      refine br_f (by rw [lf_m3]; exact nI_ge (by omega) (by omega)) ?_
      refine lx_accOf (by omega) (fun h3 => br_f lf_10 ?_) (fun h3 => br_t rfl (nm_r (nI_1 z) (ih (z + 1) (by omega) ?_)))
      · refine lx_mat hns hnl hPT hsl hG (by omega) hf (fun h4 => br_f lf_10 (nm_r (nI_1 z) (ih (z + 1) (by omega) ?_))) (fun h4 => br_t rfl (b (fun q => h4 (q z (by omega) h3))))
        intro y hy
        by_cases e : y = z
        · subst e; exact fun _ => h4
        · exact h2 y (by omega)
      · intro y hy
        by_cases e : y = z
        · subst e; exact fun q => absurd q h3
        · exact h2 y (by omega)
  exact ⟨_, H (3 * ns - f) f (by omega) (fun y hy q => absurd q (h1 y hy))⟩
theorem lx_stay {post : Int32 → Prop} {f : Nat} (hB : lf_B na n nl ns F L Lo Hi lLo lHi lF lC sl sk sa sc sv kd ar co va dA dC dO) (hf : f < 3 * ns) (hac : sk f = 2) (a : lf_ran n (Lo (L (f / 3))) (Hi (L (f / 3))) (sc f) (sv f) → post 1) (b : ¬ lf_ran n (Lo (L (f / 3))) (Hi (L (f / 3))) (sc f) (sv f) → post 0) : wpX_staysInRange post (nI na, nI n, ph, nI nl, nI ns, gX, rc, tmp, con, sca, ini, ori, fus, lLo, lHi, lF, lC, xg, xj, xd, gf, gl, sl, so, sk, sa, sc, sv) (nI f) := by
  obtain ⟨⟨_, hna, _, hn, hnl, hns⟩, hPT, hLP, hsl, hSR, hw⟩ := hB
  have hl := (hPT.2.2.2 (f / 3) (by omega)).1
  generalize hL : L (f / 3) = l at *
  have df : nI f / 3 = nI (f / 3) := lf_d3 (by omega)
  have hi : vp_in (nI l) 8 := vp_in_nI (by omega) (by decide)
  have ec : (nI l).toNatClampNeg = l := nI_clamp (by omega)
  obtain ⟨q1, q2, q3, q4, q5, q6⟩ := hLP l hl
  obtain ⟨c, hc, ecf⟩ := lf_WF2 hf hw hac
  have ex : ∀ i d, Hi l < i → i ≤ 16 → (∀ j, Lo l ≤ j → j < i → ¬ (sc f * nI j + sv f < 0 ∨ ¬ sc f * nI j + sv f < nI n)) → wX_staysInRange_16 post (nI f) (nI l) (nI na) (nI n) ph (nI nl) (nI ns) gX rc tmp con sca ini ori fus lLo lHi lF lC xg xj xd gf gl sl so sk sa sc sv (d + 1) (nI i) := by
    intro i d h1 h2 h3
    refine ⟨hi, br_t ?_ (a (fun j hj hj2 => h3 j hj (by omega)))⟩
    rw [ec, q2]; exact nI_lt h1 (by omega)
  have H : ∀ d i, Hi l + 1 ≤ i + d → Lo l ≤ i → i ≤ 16 → (∀ j, Lo l ≤ j → j < i → ¬ (sc f * nI j + sv f < 0 ∨ ¬ sc f * nI j + sv f < nI n)) → wX_staysInRange_16 post (nI f) (nI l) (nI na) (nI n) ph (nI nl) (nI ns) gX rc tmp con sca ini ori fus lLo lHi lF lC xg xj xd gf gl sl so sk sa sc sv (d + 1) (nI i) := by
    intro d
    induction d with
    | zero =>
      intro i h1 h0 h2 h3
      exact ex i 0 (by omega) h2 h3
    | succ d ih =>
      intro i h1 h0 h2 h3
      by_cases hh : Hi l < i
      · exact ex i (d + 1) hh h2 h3
      · have hx : ¬ lHi (nI l).toNatClampNeg < nI i := by rw [ec, q2]; exact nI_nlt (by omega) (by omega)
        refine ⟨hi, br_f hx ?_⟩
        refine lx_cellAt (by omega) ?_
        rcases lf_rng hn (sc f * nI i + sv f) with h4 | ⟨j, hj, ej⟩
        · rw [lf_cell_o h4]
          exact br_t rfl (b (fun q => q i h0 (by omega) h4))
        · rw [ecf, ej, lf_cell_i hj hn]
          refine br_f (lf_ne1 (by omega)) (nm_r (nI_1 i) (ih (i + 1) (by omega) (by omega) (by omega) ?_))
          intro j' hj1 hj2
          by_cases e : j' = i
          · rw [e, ej]; exact lf_rng_n hn hj
          · exact h3 j' hj1 (by omega)
  refine ⟨lf_30, by rw [df]; exact vp_in_nI (by omega) (by decide), nm_r (e' := nI l) (by rw [df, nI_clamp (by omega), hsl _ (by omega), hL]) ⟨hi, nm_r (e' := nI (Lo l)) (by rw [ec]; exact q1) ⟨_, H (Hi l + 1) (Lo l) (by omega) (Nat.le_refl _) (by omega) (fun j h1 h2 => absurd h2 (by omega))⟩⟩⟩
theorem lx_contr {post : Int32 → Prop} {g x : Nat} (hB : lf_B na n nl ns F L Lo Hi lLo lHi lF lC sl sk sa sc sv kd ar co va dA dC dO) (hG : lf_G nl g G gp xg gf gl yg) (hx : x < na) (k : post (lf_b (lf_CT n ns tmp sk sa sc sv L gp G Lo Hi x))) : wpX_isContractible post (nI na, nI n, ph, nI nl, nI ns, gX, rc, tmp, con, sca, ini, ori, fus, lLo, lHi, lF, lC, xg, xj, xd, gf, gl, sl, so, sk, sa, sc, sv) (nI x) := by
  obtain ⟨⟨_, hna, _, hn, hnl, hns⟩, hPT, hLP, hsl, hSR, hw⟩ := id hB
  obtain ⟨k1, k0⟩ := lf_b_k k
  have hi : vp_in (nI x) 6 := vp_in_nI (by omega) (by decide)
  have ec : (nI x).toNatClampNeg = x := nI_clamp (by omega)
  have hg : g ≤ nl := lf_PT_sn hG.1 (fun a ha => (hG.2.1 a ha).1)
  unfold wpX_isContractible
  refine lx_first hns (fun f hf ha h1 => ?_) (fun h1 => ?_)
  · have hl := (hPT.2.2.2 (f / 3) (by omega)).1
    have hgp := (hG.1.2.2.2 _ hl).1
    have hCT := lf_CT_f (n := n) (tmp := tmp) (sc := sc) (sv := sv) (L := L) (gp := gp) (G := G) (lo := Lo) (hi := Hi) hf ha h1
    have df : nI f / 3 = nI (f / 3) := lf_d3 (by omega)
    have ef : (nI f).toNatClampNeg = f := nI_clamp (by omega)
    obtain ⟨p1, p2, p3⟩ := hG.2.1 _ hgp
    have hGl : G (gp (L (f / 3)) + 1) ≤ nl := lf_PT_le hG.1 (by omega)
    have v1 : vp_in (nI f / 3) 12 := by rw [df]; exact vp_in_nI (by omega) (by decide)
    have e1 : sl (nI f / 3).toNatClampNeg = nI (L (f / 3)) := by rw [df, nI_clamp (by omega)]; exact hsl _ (by omega)
    have v2 : vp_in (sl (nI f / 3).toNatClampNeg) 8 := by rw [e1]; exact vp_in_nI (by omega) (by decide)
    have e2 : xg (sl (nI f / 3).toNatClampNeg).toNatClampNeg = nI (gp (L (f / 3))) := by rw [e1, nI_clamp (by omega)]; exact (hG.2.2 _ hl).1
    have e3 : gl (nI (gp (L (f / 3)))).toNatClampNeg = nI (G (gp (L (f / 3)) + 1) - G (gp (L (f / 3)))) := by rw [nI_clamp (by omega)]; exact p3
    refine ⟨hi, br_c (fun h => k0 ?_) (fun h => br_f (lf_ne1 (by omega)) ⟨lf_30, v1, v2, nm_r e2 ⟨vp_in_nI (by omega) (by decide), br_c (fun h2 => k0 ?_) (fun h2 => ⟨vp_in_nI (by omega) (by decide), br_c (fun h3 => k0 ?_) (fun h3 => ?_)⟩)⟩⟩)⟩
    · rw [ec] at h
      exact fun q => q.1 h
    · rw [e3] at h2
      have h2' := (nI_ltI (b := 2) (by omega) (by decide)).mp h2
      rw [hCT]
      intro q
      have := q.2.2.1
      omega
    · rw [ef] at h3
      rw [hCT]
      exact fun q => q.2.2.2.1 h3
    · rw [ec] at h
      rw [ef] at h3
      rw [e3] at h2
      have h2' : ¬ (G (gp (L (f / 3)) + 1) - G (gp (L (f / 3)))) < 2 := fun q => h2 (nI_lt (b := 2) q (by decide))
      refine lx_isW (by omega) (fun h4 => br_f lf_10 ?_) (fun h4 => br_t rfl (k0 ?_))
      · refine lx_allm hns hnl hPT hsl hG hf h1 (fun h5 => br_f lf_10 ?_) (fun h5 => br_t rfl (k0 ?_))
        · refine lx_stay hB hf ha.1 (fun h6 => br_f lf_10 (k1 ?_)) (fun h6 => br_t rfl (k0 ?_))
          · rw [hCT]
            exact ⟨h, h5, by omega, h3, h4, h6⟩
          · rw [hCT]
            exact fun q => h6 q.2.2.2.2.2
        · rw [hCT]
          exact fun q => h5 q.2.1
      · rw [hCT]
        exact fun q => h4 q.2.2.2.2.1
  · exact ⟨hi, br_c (fun _ => k0 (lf_CT_n h1)) (fun _ => br_t rfl (k0 (lf_CT_n h1)))⟩
theorem lf_nb (P : Prop) : vp_nar .boolean (lf_b P) = lf_b P := by
  by_cases h : P
  · rw [lf_b_t h]; decide
  · rw [lf_b_f h]; decide
theorem lx_an32 {post : Int32 → SX → Prop} {g : Nat} (hB : lf_B na n nl ns F L Lo Hi lLo lHi lF lC sl sk sa sc sv kd ar co va dA dC dO) (hG : lf_G nl g G gp xg gf gl yg)
    (k : post (nI g) (nI na, nI n, 1, nI nl, nI ns, nI g, rc, tmp, lf_cp (fun x => lf_b (lf_CT n ns tmp sk sa sc sv L gp G Lo Hi x)) na con, sca, ini, ori, fus, lLo, lHi, lF, lC, xg, xj, xd, gf, gl, sl, so, sk, sa, sc, sv)) : ∃ q, wX_analyze_32 post (nI na) (nI n) ph (nI nl) (nI ns) (nI g) rc q 0 tmp con sca ini ori fus lLo lHi lF lC xg xj xd gf gl sl so sk sa sc sv := by
  have hna := hB.1.2.1
  have H : ∀ d i, i + d = na → wX_analyze_32 post (nI na) (nI n) ph (nI nl) (nI ns) (nI g) rc (d + 1) (nI i) tmp (lf_cp (fun x => lf_b (lf_CT n ns tmp sk sa sc sv L gp G Lo Hi x)) i con) sca ini ori fus lLo lHi lF lC xg xj xd gf gl sl so sk sa sc sv := by
    intro d
    induction d with
    | zero =>
      intro i h
      obtain rfl : i = na := by omega
      exact br_t (lf_rfl _) k
    | succ d ih =>
      intro i h
      have h1 := ih (i + 1) (by omega)
      rw [← lf_cp_s] at h1
      have hi : vp_in (nI i) 6 := vp_in_nI (by omega) (by decide)
      have ec : (nI i).toNatClampNeg = i := nI_clamp (by omega)
      refine br_f (nI_ge (by omega) (by omega)) ?_
      refine lx_contr hB hG (by omega) ?_
      exact ⟨hi, nm_r (by rw [ec, lf_nb]) (nm_r (nI_1 i) h1)⟩
  have h := H na 0 (by omega)
  rw [lf_cp0] at h
  exact ⟨_, h⟩
end LFA2
